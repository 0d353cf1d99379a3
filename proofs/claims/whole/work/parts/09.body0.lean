def s_X1_wanted_4 (M : Mem) (k4 : Nat → Int32 → Int32 → Option (Int32)) (x0 : Nat) (x1 : Int32) (x2 : Int32) : Option (Int32) :=
  gd (oB shC x0 1) <| if (gI M x0 3) ≤ x2 then some x1 else bd (gR M x0 5) fun r2 => gd (aB shC r2 0 x2) <| k4 (x0) ((x1 + (gI M r2 (x2 : Int32).toNatClampNeg))) ((x2 + 1))
def f_X1_wanted_4 (M : Mem)  : Nat → Nat → Int32 → Int32 → Option (Int32)
  | 0 => fun _ _ _ => none
  | n + 1 => fun y0 y1 y2 => s_X1_wanted_4 M  (f_X1_wanted_4 M  n) y0 y1 y2
def f_X1_wanted (M : Mem) (a0 : Nat) : Option (Int32) :=
  f_X1_wanted_4 M FU (a0) (0) (0)
theorem t_s_X1_wanted_4 {X : Cx} {M : Mem} {res : Int32} {k4 : Nat → Int32 → Int32 → Option (Int32)} (hX : OkX X cX1_wanted RX1 0 0) (hn : Fit X shC nC) (hR : RetI X shC nC .int (M, res)) (hk4 : ∀ x0 x1 x2, k4 x0 x1 x2 = some res → GoN X shC nC 0 0 M 4 [some (.ref (X.B + x0)), some (.int (x1)), some (.int (x2))] []) (x0 : Nat) (x1 : Int32) (x2 : Int32) (hf : s_X1_wanted_4 M k4 x0 x1 x2 = some res) : GoN X shC nC 0 0 M 4 [some (.ref (X.B + x0)), some (.int (x1)), some (.int (x2))] [] := by
  refine r_iload_n (i := 2) hX e_X1_wanted_4 rfl rfl ?_
  refine r_aload_n (i := 0) hX e_X1_wanted_5 rfl rfl ?_
  obtain ⟨g1, hf⟩ := gd_s hf
  refine r_getI hX hn e_X1_wanted_6 fl_1_31 rfl g1 ?_
  refine r_icmp_ge hX e_X1_wanted_9 (fun hc => ?_) (fun hc => ?_)
  · have hf := ite_t hf hc
    refine r_iload_n (i := 1) hX e_X1_wanted_27 rfl rfl ?_
    exact r_iret hX hR e_X1_wanted_28 (ro_s hf)
  · have hf := ite_f hf hc
    refine r_iload_n (i := 1) hX e_X1_wanted_12 rfl rfl ?_
    refine r_aload_n (i := 0) hX e_X1_wanted_13 rfl rfl ?_
    obtain ⟨r2, hr2, hf⟩ := bd_s hf
    refine r_getR hX hn e_X1_wanted_14 fl_1_15 rfl g1 hr2 ?_
    refine r_iload_n (i := 2) hX e_X1_wanted_17 rfl rfl ?_
    obtain ⟨g3, hf⟩ := gd_s hf
    refine r_iald hX hn e_X1_wanted_18 g3 ?_
    refine r_iadd hX e_X1_wanted_19 ?_
    refine r_istore_n (i := 1) hX e_X1_wanted_20 rfl (Nat.le_of_ble_eq_true rfl) rfl ?_
    refine r_iinc (v := x2 + 1) hX e_X1_wanted_21 rfl (ii_s ic_1) (Nat.le_of_ble_eq_true rfl) rfl ?_
    refine r_goto hX e_X1_wanted_24 ?_
    exact GoN.weak (hk4 (x0) ((x1 + (gI M r2 (x2 : Int32).toNatClampNeg))) ((x2 + 1)) hf) rfl (sb_s (sb_s (sb_s (sb_z _))))
theorem t_X1_wanted_4 {X : Cx} {M : Mem} {res : Int32}  (hX : OkX X cX1_wanted RX1 0 0) (hn : Fit X shC nC) (hR : RetI X shC nC .int (M, res))  : ∀ (n : Nat) (x0 : Nat) (x1 : Int32) (x2 : Int32),  f_X1_wanted_4 M  n x0 x1 x2 = some res → GoN X shC nC 0 0 M 4 [some (.ref (X.B + x0)), some (.int (x1)), some (.int (x2))] [] := by
  intro n
  induction n with
  | zero => intro x0 x1 x2 hf; cases hf
  | succ n ih => intro x0 x1 x2 hf; exact t_s_X1_wanted_4 hX hn hR  ih x0 x1 x2 hf
theorem t_X1_wanted {l : Launch} {M : Mem} {a0 : Nat} {res : Int32} (hf : f_X1_wanted M a0 = some res) : Ci l yX1_wanted cX1_wanted 3 (some .int) 0 0 shC nC (fun B => [.ref (B + a0)]) M (M, res) := by
  refine met_i (own := RX1) (lo := fun B => [some (.ref (B + a0)), none, none]) (by decide +kernel) rfl shC_ok (fun _ => rfl) (fun _ => rfl) (fun _ => Nat.le_of_ble_eq_true rfl) (fun X hX hn hlx hR => ?_)
  refine r_iconst hX e_X1_wanted_0 ic_0 ?_
  refine r_istore_n (i := 1) hX e_X1_wanted_1 rfl (Nat.le_of_ble_eq_true rfl) rfl ?_
  refine r_iconst hX e_X1_wanted_2 ic_0 ?_
  refine r_istore_n (i := 2) hX e_X1_wanted_3 rfl (Nat.le_of_ble_eq_true rfl) rfl ?_
  exact GoN.weak (t_X1_wanted_4 hX hn hR FU (a0) (0) (0) hf) rfl (sb_s (sb_s (sb_s (sb_z _))))
def s_X1_wantOf_2 (M : Mem) (k2 : Nat → Int32 → Int32 → Option (Int32)) (x0 : Nat) (x1 : Int32) (x2 : Int32) : Option (Int32) :=
  gd (oB shC x0 1) <| if (gI M x0 3) ≤ x2 then some (-1) else bd (gR M x0 4) fun r2 => gd (aB shC r2 0 x2) <| if (gI M r2 (x2 : Int32).toNatClampNeg) = x1 then some x2 else k2 (x0) (x1) ((x2 + 1))
def f_X1_wantOf_2 (M : Mem)  : Nat → Nat → Int32 → Int32 → Option (Int32)
  | 0 => fun _ _ _ => none
  | n + 1 => fun y0 y1 y2 => s_X1_wantOf_2 M  (f_X1_wantOf_2 M  n) y0 y1 y2
def f_X1_wantOf (M : Mem) (a0 : Nat) (a1 : Int32) : Option (Int32) :=
  f_X1_wantOf_2 M FU (a0) (a1) (0)
theorem t_s_X1_wantOf_2 {X : Cx} {M : Mem} {res : Int32} {k2 : Nat → Int32 → Int32 → Option (Int32)} (hX : OkX X cX1_wantOf RX1 0 0) (hn : Fit X shC nC) (hR : RetI X shC nC .int (M, res)) (hk2 : ∀ x0 x1 x2, k2 x0 x1 x2 = some res → GoN X shC nC 0 0 M 2 [some (.ref (X.B + x0)), some (.int (x1)), some (.int (x2))] []) (x0 : Nat) (x1 : Int32) (x2 : Int32) (hf : s_X1_wantOf_2 M k2 x0 x1 x2 = some res) : GoN X shC nC 0 0 M 2 [some (.ref (X.B + x0)), some (.int (x1)), some (.int (x2))] [] := by
  refine r_iload_n (i := 2) hX e_X1_wantOf_2 rfl rfl ?_
  refine r_aload_n (i := 0) hX e_X1_wantOf_3 rfl rfl ?_
  obtain ⟨g1, hf⟩ := gd_s hf
  refine r_getI hX hn e_X1_wantOf_4 fl_1_31 rfl g1 ?_
  refine r_icmp_ge hX e_X1_wantOf_7 (fun hc => ?_) (fun hc => ?_)
  · have hf := ite_t hf hc
    refine r_iconst hX e_X1_wantOf_28 ic_m1 ?_
    exact r_iret hX hR e_X1_wantOf_29 (ro_s hf)
  · have hf := ite_f hf hc
    refine r_aload_n (i := 0) hX e_X1_wantOf_10 rfl rfl ?_
    obtain ⟨r2, hr2, hf⟩ := bd_s hf
    refine r_getR hX hn e_X1_wantOf_11 fl_1_9 rfl g1 hr2 ?_
    refine r_iload_n (i := 2) hX e_X1_wantOf_14 rfl rfl ?_
    obtain ⟨g3, hf⟩ := gd_s hf
    refine r_iald hX hn e_X1_wantOf_15 g3 ?_
    refine r_iload_n (i := 1) hX e_X1_wantOf_16 rfl rfl ?_
    refine r_icmp_ne hX e_X1_wantOf_17 (fun hc => ?_) (fun hc => ?_)
    · have hf := ite_f hf hc
      refine r_iinc (v := x2 + 1) hX e_X1_wantOf_22 rfl (ii_s ic_1) (Nat.le_of_ble_eq_true rfl) rfl ?_
      refine r_goto hX e_X1_wantOf_25 ?_
      exact GoN.weak (hk2 (x0) (x1) ((x2 + 1)) hf) rfl (sb_s (sb_s (sb_s (sb_z _))))
    · have hf := ite_t hf hc
      refine r_iload_n (i := 2) hX e_X1_wantOf_20 rfl rfl ?_
      exact r_iret hX hR e_X1_wantOf_21 (ro_s hf)
theorem t_X1_wantOf_2 {X : Cx} {M : Mem} {res : Int32}  (hX : OkX X cX1_wantOf RX1 0 0) (hn : Fit X shC nC) (hR : RetI X shC nC .int (M, res))  : ∀ (n : Nat) (x0 : Nat) (x1 : Int32) (x2 : Int32),  f_X1_wantOf_2 M  n x0 x1 x2 = some res → GoN X shC nC 0 0 M 2 [some (.ref (X.B + x0)), some (.int (x1)), some (.int (x2))] [] := by
  intro n
  induction n with
  | zero => intro x0 x1 x2 hf; cases hf
  | succ n ih => intro x0 x1 x2 hf; exact t_s_X1_wantOf_2 hX hn hR  ih x0 x1 x2 hf
theorem t_X1_wantOf {l : Launch} {M : Mem} {a0 : Nat} {a1 : Int32} {res : Int32} (hf : f_X1_wantOf M a0 a1 = some res) : Ci l yX1_wantOf cX1_wantOf 3 (some .int) 0 0 shC nC (fun B => [.ref (B + a0), .int a1]) M (M, res) := by
  refine met_i (own := RX1) (lo := fun B => [some (.ref (B + a0)), some (.int a1), none]) (by decide +kernel) rfl shC_ok (fun _ => rfl) (fun _ => rfl) (fun _ => Nat.le_of_ble_eq_true rfl) (fun X hX hn hlx hR => ?_)
  refine r_iconst hX e_X1_wantOf_0 ic_0 ?_
  refine r_istore_n (i := 2) hX e_X1_wantOf_1 rfl (Nat.le_of_ble_eq_true rfl) rfl ?_
  exact GoN.weak (t_X1_wantOf_2 hX hn hR FU (a0) (a1) (0) hf) rfl (sb_s (sb_s (sb_s (sb_z _))))
def f_X0_takeNext_38  (M : Mem) (x0 : Nat) : Option (Mem) :=
  gd (oB shC x0 0) <| bd (gR M x0 7) fun r2 => gd (aB shC r2 1 (gI M x0 8)) <| nx (((gL M r2 ((gI M x0 8) : Int32).toNatClampNeg) ||| (1 <<< (((gI M x0 9) : Int32).toInt64 &&& 63)))) fun v4 => nx (sL M r2 ((gI M x0 8) : Int32).toNatClampNeg v4) fun M5 => bd (gR M5 x0 2) fun r6 => gd (aB shC r6 0 (gI M5 x0 9)) <| nx ((gI M5 r6 ((gI M5 x0 9) : Int32).toNatClampNeg)) fun v8 => nx (sI M5 r6 ((gI M5 x0 9) : Int32).toNatClampNeg (v8 + 1)) fun M9 => nx (sI M9 x0 1 ((gI M9 x0 1) + (gI M9 x0 10))) fun M10 => nx (sI M10 x0 0 ((gI M10 x0 0) + 1)) fun M11 => some M11
def f_X0_takeNext (M : Mem) (a0 : Nat) : Option (Mem) :=
  gd (oB shC a0 0) <| bd (gR M a0 5) fun r2 => bd (gR M a0 3) fun r3 => gd (oB shC r3 4) <| bd (gR M r3 7) fun r5 => gd (aB shC r5 5 (gI M a0 8)) <| bd (gR M r5 ((gI M a0 8) : Int32).toNatClampNeg) fun r7 => gd (oB shC r7 9) <| gd (oB shC r2 1) <| bd (f_X1_wantOf M r2 (gI M r7 2)) fun v10 => if v10 = (-1) then f_X0_takeNext_38 M (a0) else bd (gR M a0 6) fun r11 => gd (aB shC r11 0 v10) <| nx (sI M r11 (v10 : Int32).toNatClampNeg ((gI M r11 (v10 : Int32).toNatClampNeg) - 1)) fun M13 => f_X0_takeNext_38 M13 (a0)
theorem t_X0_takeNext_38 {X : Cx} {res : Mem}  (hX : OkX X cX0_takeNext RX0 1 22) (hn : Fit X shC nC) (hR : RetV X shC nC res)  (M : Mem) (x0 : Nat) (hf : f_X0_takeNext_38  M x0 = some res) : GoN X shC nC 0 0 M 38 [some (.ref (X.B + x0)), none] [] := by
  refine r_aload_n (i := 0) hX e_X0_takeNext_38 rfl rfl ?_
  obtain ⟨g1, hf⟩ := gd_s hf
  obtain ⟨r2, hr2, hf⟩ := bd_s hf
  refine r_getR hX hn e_X0_takeNext_39 fl_0_18 rfl g1 hr2 ?_
  refine r_aload_n (i := 0) hX e_X0_takeNext_42 rfl rfl ?_
  refine r_getI hX hn e_X0_takeNext_43 fl_0_100 rfl g1 ?_
  refine r_dup2_11 hX e_X0_takeNext_46 rfl rfl ?_
  obtain ⟨g3, hf⟩ := gd_s hf
  refine r_lald hX hn e_X0_takeNext_47 g3 ?_
  refine r_lconst hX e_X0_takeNext_48 lc_1 ?_
  refine r_aload_n (i := 0) hX e_X0_takeNext_49 rfl rfl ?_
  refine r_getI hX hn e_X0_takeNext_50 fl_0_103 rfl g1 ?_
  refine r_lshl hX e_X0_takeNext_53 ?_
  refine r_lor hX e_X0_takeNext_54 ?_
  obtain ⟨v4, hv4, hf⟩ := nx_s hf
  refine top_l hv4 ?_
  obtain ⟨M5, hM5, hf⟩ := nx_s hf
  refine r_last hX hn hM5 e_X0_takeNext_55 g3 ?_
  refine r_aload_n (i := 0) hX e_X0_takeNext_56 rfl rfl ?_
  obtain ⟨r6, hr6, hf⟩ := bd_s hf
  refine r_getR hX hn e_X0_takeNext_57 fl_0_9 rfl g1 hr6 ?_
  refine r_aload_n (i := 0) hX e_X0_takeNext_60 rfl rfl ?_
  refine r_getI hX hn e_X0_takeNext_61 fl_0_103 rfl g1 ?_
  refine r_dup2_11 hX e_X0_takeNext_64 rfl rfl ?_
  obtain ⟨g7, hf⟩ := gd_s hf
  refine r_iald hX hn e_X0_takeNext_65 g7 ?_
  obtain ⟨v8, hv8, hf⟩ := nx_s hf
  refine top_i hv8 ?_
  refine r_iconst hX e_X0_takeNext_66 ic_1 ?_
  refine r_iadd hX e_X0_takeNext_67 ?_
  obtain ⟨M9, hM9, hf⟩ := nx_s hf
  refine r_iast hX hn hM9 e_X0_takeNext_68 g7 ?_
  refine r_aload_n (i := 0) hX e_X0_takeNext_69 rfl rfl ?_
  refine r_dup hX e_X0_takeNext_70 rfl ?_
  refine r_getI hX hn e_X0_takeNext_71 fl_0_44 rfl g1 ?_
  refine r_aload_n (i := 0) hX e_X0_takeNext_74 rfl rfl ?_
  refine r_getI hX hn e_X0_takeNext_75 fl_0_74 rfl g1 ?_
  refine r_iadd hX e_X0_takeNext_78 ?_
  obtain ⟨M10, hM10, hf⟩ := nx_s hf
  refine r_putI hX hn hM10 e_X0_takeNext_79 fl_0_44 fp_0_1 rfl g1 ?_
  refine r_aload_n (i := 0) hX e_X0_takeNext_82 rfl rfl ?_
  refine r_dup hX e_X0_takeNext_83 rfl ?_
  refine r_getI hX hn e_X0_takeNext_84 fl_0_40 rfl g1 ?_
  refine r_iconst hX e_X0_takeNext_87 ic_1 ?_
  refine r_iadd hX e_X0_takeNext_88 ?_
  obtain ⟨M11, hM11, hf⟩ := nx_s hf
  refine r_putI hX hn hM11 e_X0_takeNext_89 fl_0_40 fp_0_0 rfl g1 ?_
  exact r_ret hX hR e_X0_takeNext_92 hf
theorem t_X0_takeNext {l : Launch} {M : Mem} {a0 : Nat} {res : Mem} (hf : f_X0_takeNext M a0 = some res) : Cv l yX0_takeNext cX0_takeNext 2 none 1 22 shC nC (fun B => [.ref (B + a0)]) M res := by
  refine met_v (own := RX0) (lo := fun B => [some (.ref (B + a0)), none]) (by decide +kernel) rfl shC_ok (fun _ => rfl) (fun _ => rfl) (fun _ => Nat.le_of_ble_eq_true rfl) (fun X hX hn hlx hR => ?_)
  refine r_aload_n (i := 0) hX e_X0_takeNext_0 rfl rfl ?_
  obtain ⟨g1, hf⟩ := gd_s hf
  obtain ⟨r2, hr2, hf⟩ := bd_s hf
  refine r_getR hX hn e_X0_takeNext_1 fl_0_36 rfl g1 hr2 ?_
  refine r_aload_n (i := 0) hX e_X0_takeNext_4 rfl rfl ?_
  obtain ⟨r3, hr3, hf⟩ := bd_s hf
  refine r_getR hX hn e_X0_takeNext_5 fl_0_22 rfl g1 hr3 ?_
  obtain ⟨g4, hf⟩ := gd_s hf
  obtain ⟨r5, hr5, hf⟩ := bd_s hf
  refine r_getR hX hn e_X0_takeNext_8 fl_0_90 rfl g4 hr5 ?_
  refine r_aload_n (i := 0) hX e_X0_takeNext_11 rfl rfl ?_
  refine r_getI hX hn e_X0_takeNext_12 fl_0_100 rfl g1 ?_
  obtain ⟨g6, hf⟩ := gd_s hf
  obtain ⟨r7, hr7, hf⟩ := bd_s hf
  refine r_aald hX hn e_X0_takeNext_15 g6 (Nat.le_of_ble_eq_true rfl) rfl rfl rfl hr7 ?_
  obtain ⟨g8, hf⟩ := gd_s hf
  refine r_getI hX hn e_X0_takeNext_16 fl_0_112 rfl g8 ?_
  obtain ⟨g9, hf⟩ := gd_s hf
  obtain ⟨v10, hv10, hf⟩ := bd_s hf
  refine r_cvi (As := fun B => [.int ((gI M r7 2))]) hX hn (t_X1_wantOf hv10) e_X0_takeNext_19 cw_X1_wantOf cv_X1_wantOf lk_0_117 ⟨Nat.le_of_ble_eq_true rfl, Nat.le_of_ble_eq_true rfl⟩ (ci := 1) rfl rfl (Nat.le_of_ble_eq_true rfl) g9 rfl rfl (Nat.le_of_ble_eq_true rfl) ⟨Nat.zero_le _, Nat.zero_le _⟩ ?_
  refine r_istore_n (i := 1) hX e_X0_takeNext_22 rfl (Nat.le_of_ble_eq_true rfl) rfl ?_
  refine r_iload_n (i := 1) hX e_X0_takeNext_23 rfl rfl ?_
  refine r_iconst hX e_X0_takeNext_24 ic_m1 ?_
  refine r_icmp_eq hX e_X0_takeNext_25 (fun hc => ?_) (fun hc => ?_)
  · have hf := ite_t hf hc
    exact GoN.weak (t_X0_takeNext_38 hX hn hR M (a0) hf) rfl (sb_s (sb_n (sb_z _)))
  · have hf := ite_f hf hc
    refine r_aload_n (i := 0) hX e_X0_takeNext_28 rfl rfl ?_
    obtain ⟨r11, hr11, hf⟩ := bd_s hf
    refine r_getR hX hn e_X0_takeNext_29 fl_0_15 rfl g1 hr11 ?_
    refine r_iload_n (i := 1) hX e_X0_takeNext_32 rfl rfl ?_
    refine r_dup2_11 hX e_X0_takeNext_33 rfl rfl ?_
    obtain ⟨g12, hf⟩ := gd_s hf
    refine r_iald hX hn e_X0_takeNext_34 g12 ?_
    refine r_iconst hX e_X0_takeNext_35 ic_1 ?_
    refine r_isub hX e_X0_takeNext_36 ?_
    obtain ⟨M13, hM13, hf⟩ := nx_s hf
    refine r_iast hX hn hM13 e_X0_takeNext_37 g12 ?_
    exact GoN.weak (t_X0_takeNext_38 hX hn hR M13 (a0) hf) rfl (sb_s (sb_n (sb_z _)))
def f_X2_turnRing_53 (k8 : Mem → Nat → Nat → Int32 → Int32 → Int32 → Int32 → Option (Mem)) (M : Mem) (x0 : Nat) (x1 : Nat) (x2 : Int32) (x3 : Int32) (x4 : Int32) (x5 : Int32) : Option (Mem) :=
  gd (aB shC x1 0 x5) <| nx (sI M x1 (x5 : Int32).toNatClampNeg x3) fun M2 => k8 M2 (x0) (x1) (x2) (x3) (x4) ((x5 + 1))
def f_X2_turnRing_50 (k8 : Mem → Nat → Nat → Int32 → Int32 → Int32 → Int32 → Option (Mem)) (M : Mem) (x0 : Nat) (x1 : Nat) (x2 : Int32) (x3 : Int32) (x4 : Int32) (x5 : Int32) : Option (Mem) :=
  f_X2_turnRing_53 k8 M (x0) (x1) (x2) (x3) ((x4 + 1)) (x5)
def s_X2_turnRing_8 (k8 : Mem → Nat → Nat → Int32 → Int32 → Int32 → Int32 → Option (Mem)) (M : Mem) (x0 : Nat) (x1 : Nat) (x2 : Int32) (x3 : Int32) (x4 : Int32) (x5 : Int32) : Option (Mem) :=
  if x2 ≤ x5 then some M else gd (oB shC x0 7) <| nx (((gL M x0 2) >>> ((x5 : Int32).toInt64 &&& 63))) fun v2 => if (lg_cmp (v2 &&& 1) 0) = 0 then if (gI M x0 0) ≤ 0 then f_X2_turnRing_50 k8 M (x0) (x1) (x2) (x3) (x4) (x5) else if x4 = (gI M x0 0) then f_X2_turnRing_50 k8 M (x0) (x1) (x2) ((x3 + 1)) (0) (x5) else f_X2_turnRing_50 k8 M (x0) (x1) (x2) (x3) (x4) (x5) else f_X2_turnRing_53 k8 M (x0) (x1) (x2) (x3) (x4) (x5)
def f_X2_turnRing_8  : Nat → Mem → Nat → Nat → Int32 → Int32 → Int32 → Int32 → Option (Mem)
  | 0 => fun _ _ _ _ _ _ _ => none
  | n + 1 => fun y0 y1 y2 y3 y4 y5 y6 => s_X2_turnRing_8  (f_X2_turnRing_8  n) y0 y1 y2 y3 y4 y5 y6
def f_X2_turnRing (M : Mem) (a0 : Nat) (a1 : Nat) (a2 : Int32) : Option (Mem) :=
  f_X2_turnRing_8 FU M (a0) (a1) (a2) (0) (0) (0)
theorem t_X2_turnRing_53 {X : Cx} {res : Mem} {k8 : Mem → Nat → Nat → Int32 → Int32 → Int32 → Int32 → Option (Mem)} (hX : OkX X cX2_turnRing RX2 0 0) (hn : Fit X shC nC) (hR : RetV X shC nC res) (hk8 : ∀ M x0 x1 x2 x3 x4 x5, k8 M x0 x1 x2 x3 x4 x5 = some res → GoN X shC nC 0 0 M 8 [some (.ref (X.B + x0)), some (.ref (X.B + x1)), some (.int (x2)), some (.int (x3)), some (.int (x4)), some (.int (x5))] []) (M : Mem) (x0 : Nat) (x1 : Nat) (x2 : Int32) (x3 : Int32) (x4 : Int32) (x5 : Int32) (hf : f_X2_turnRing_53 k8 M x0 x1 x2 x3 x4 x5 = some res) : GoN X shC nC 0 0 M 53 [some (.ref (X.B + x0)), some (.ref (X.B + x1)), some (.int (x2)), some (.int (x3)), some (.int (x4)), some (.int (x5))] [] := by
  refine r_aload_n (i := 1) hX e_X2_turnRing_53 rfl rfl ?_
  refine r_iload hX e_X2_turnRing_54 rfl ?_
  refine r_iload_n (i := 3) hX e_X2_turnRing_56 rfl rfl ?_
  obtain ⟨g1, hf⟩ := gd_s hf
  obtain ⟨M2, hM2, hf⟩ := nx_s hf
  refine r_iast hX hn hM2 e_X2_turnRing_57 g1 ?_
  refine r_iinc (v := x5 + 1) hX e_X2_turnRing_58 rfl (ii_s ic_1) (Nat.le_of_ble_eq_true rfl) rfl ?_
  refine r_goto hX e_X2_turnRing_61 ?_
  exact GoN.weak (hk8 M2 (x0) (x1) (x2) (x3) (x4) ((x5 + 1)) hf) rfl (sb_s (sb_s (sb_s (sb_s (sb_s (sb_s (sb_z _)))))))
theorem t_X2_turnRing_50 {X : Cx} {res : Mem} {k8 : Mem → Nat → Nat → Int32 → Int32 → Int32 → Int32 → Option (Mem)} (hX : OkX X cX2_turnRing RX2 0 0) (hn : Fit X shC nC) (hR : RetV X shC nC res) (hk8 : ∀ M x0 x1 x2 x3 x4 x5, k8 M x0 x1 x2 x3 x4 x5 = some res → GoN X shC nC 0 0 M 8 [some (.ref (X.B + x0)), some (.ref (X.B + x1)), some (.int (x2)), some (.int (x3)), some (.int (x4)), some (.int (x5))] []) (M : Mem) (x0 : Nat) (x1 : Nat) (x2 : Int32) (x3 : Int32) (x4 : Int32) (x5 : Int32) (hf : f_X2_turnRing_50 k8 M x0 x1 x2 x3 x4 x5 = some res) : GoN X shC nC 0 0 M 50 [some (.ref (X.B + x0)), some (.ref (X.B + x1)), some (.int (x2)), some (.int (x3)), some (.int (x4)), some (.int (x5))] [] := by
  refine r_iinc (v := x4 + 1) hX e_X2_turnRing_50 rfl (ii_s ic_1) (Nat.le_of_ble_eq_true rfl) rfl ?_
  exact GoN.weak (t_X2_turnRing_53 hX hn hR hk8 M (x0) (x1) (x2) (x3) ((x4 + 1)) (x5) hf) rfl (sb_s (sb_s (sb_s (sb_s (sb_s (sb_s (sb_z _)))))))
theorem t_s_X2_turnRing_8 {X : Cx} {res : Mem} {k8 : Mem → Nat → Nat → Int32 → Int32 → Int32 → Int32 → Option (Mem)} (hX : OkX X cX2_turnRing RX2 0 0) (hn : Fit X shC nC) (hR : RetV X shC nC res) (hk8 : ∀ M x0 x1 x2 x3 x4 x5, k8 M x0 x1 x2 x3 x4 x5 = some res → GoN X shC nC 0 0 M 8 [some (.ref (X.B + x0)), some (.ref (X.B + x1)), some (.int (x2)), some (.int (x3)), some (.int (x4)), some (.int (x5))] []) (M : Mem) (x0 : Nat) (x1 : Nat) (x2 : Int32) (x3 : Int32) (x4 : Int32) (x5 : Int32) (hf : s_X2_turnRing_8 k8 M x0 x1 x2 x3 x4 x5 = some res) : GoN X shC nC 0 0 M 8 [some (.ref (X.B + x0)), some (.ref (X.B + x1)), some (.int (x2)), some (.int (x3)), some (.int (x4)), some (.int (x5))] [] := by
  refine r_iload hX e_X2_turnRing_8 rfl ?_
  refine r_iload_n (i := 2) hX e_X2_turnRing_10 rfl rfl ?_
  refine r_icmp_ge hX e_X2_turnRing_11 (fun hc => ?_) (fun hc => ?_)
  · have hf := ite_t hf hc
    exact r_ret hX hR e_X2_turnRing_64 hf
  · have hf := ite_f hf hc
    refine r_aload_n (i := 0) hX e_X2_turnRing_14 rfl rfl ?_
    obtain ⟨g1, hf⟩ := gd_s hf
    refine r_getL hX hn e_X2_turnRing_15 fl_2_43 rfl g1 ?_
    refine r_iload hX e_X2_turnRing_18 rfl ?_
    refine r_lshr hX e_X2_turnRing_20 ?_
    obtain ⟨v2, hv2, hf⟩ := nx_s hf
    refine top_l hv2 ?_
    refine r_lconst hX e_X2_turnRing_21 lc_1 ?_
    refine r_land hX e_X2_turnRing_22 ?_
    refine r_lconst hX e_X2_turnRing_23 lc_0 ?_
    refine r_lcmp hX e_X2_turnRing_24 ?_
    refine r_if_ne hX e_X2_turnRing_25 (fun hc => ?_) (fun hc => ?_)
    · have hf := ite_f hf hc
      exact GoN.weak (t_X2_turnRing_53 hX hn hR hk8 M (x0) (x1) (x2) (x3) (x4) (x5) hf) rfl (sb_s (sb_s (sb_s (sb_s (sb_s (sb_s (sb_z _)))))))
    · have hf := ite_t hf hc
      refine r_aload_n (i := 0) hX e_X2_turnRing_28 rfl rfl ?_
      refine r_getI hX hn e_X2_turnRing_29 fl_2_49 rfl g1 ?_
      refine r_if_le hX e_X2_turnRing_32 (fun hc => ?_) (fun hc => ?_)
      · have hf := ite_t hf hc
        exact GoN.weak (t_X2_turnRing_50 hX hn hR hk8 M (x0) (x1) (x2) (x3) (x4) (x5) hf) rfl (sb_s (sb_s (sb_s (sb_s (sb_s (sb_s (sb_z _)))))))
      · have hf := ite_f hf hc
        refine r_iload hX e_X2_turnRing_35 rfl ?_
        refine r_aload_n (i := 0) hX e_X2_turnRing_37 rfl rfl ?_
        refine r_getI hX hn e_X2_turnRing_38 fl_2_49 rfl g1 ?_
        refine r_icmp_ne hX e_X2_turnRing_41 (fun hc => ?_) (fun hc => ?_)
        · have hf := ite_f hf hc
          exact GoN.weak (t_X2_turnRing_50 hX hn hR hk8 M (x0) (x1) (x2) (x3) (x4) (x5) hf) rfl (sb_s (sb_s (sb_s (sb_s (sb_s (sb_s (sb_z _)))))))
        · have hf := ite_t hf hc
          refine r_iinc (v := x3 + 1) hX e_X2_turnRing_44 rfl (ii_s ic_1) (Nat.le_of_ble_eq_true rfl) rfl ?_
          refine r_iconst hX e_X2_turnRing_47 ic_0 ?_
          refine r_istore hX e_X2_turnRing_48 (Nat.le_of_ble_eq_true rfl) rfl ?_
          exact GoN.weak (t_X2_turnRing_50 hX hn hR hk8 M (x0) (x1) (x2) ((x3 + 1)) (0) (x5) hf) rfl (sb_s (sb_s (sb_s (sb_s (sb_s (sb_s (sb_z _)))))))
theorem t_X2_turnRing_8 {X : Cx} {res : Mem}  (hX : OkX X cX2_turnRing RX2 0 0) (hn : Fit X shC nC) (hR : RetV X shC nC res)  : ∀ (n : Nat) (M : Mem) (x0 : Nat) (x1 : Nat) (x2 : Int32) (x3 : Int32) (x4 : Int32) (x5 : Int32),  f_X2_turnRing_8  n M x0 x1 x2 x3 x4 x5 = some res → GoN X shC nC 0 0 M 8 [some (.ref (X.B + x0)), some (.ref (X.B + x1)), some (.int (x2)), some (.int (x3)), some (.int (x4)), some (.int (x5))] [] := by
  intro n
  induction n with
  | zero => intro M x0 x1 x2 x3 x4 x5 hf; cases hf
  | succ n ih => intro M x0 x1 x2 x3 x4 x5 hf; exact t_s_X2_turnRing_8 hX hn hR  ih M x0 x1 x2 x3 x4 x5 hf
theorem t_X2_turnRing {l : Launch} {M : Mem} {a0 a1 : Nat} {a2 : Int32} {res : Mem} (hf : f_X2_turnRing M a0 a1 a2 = some res) : Cv l yX2_turnRing cX2_turnRing 6 none 0 0 shC nC (fun B => [.ref (B + a0), .ref (B + a1), .int a2]) M res := by
  refine met_v (own := RX2) (lo := fun B => [some (.ref (B + a0)), some (.ref (B + a1)), some (.int a2), none, none, none]) (by decide +kernel) rfl shC_ok (fun _ => rfl) (fun _ => rfl) (fun _ => Nat.le_of_ble_eq_true rfl) (fun X hX hn hlx hR => ?_)
  refine r_iconst hX e_X2_turnRing_0 ic_0 ?_
  refine r_istore_n (i := 3) hX e_X2_turnRing_1 rfl (Nat.le_of_ble_eq_true rfl) rfl ?_
  refine r_iconst hX e_X2_turnRing_2 ic_0 ?_
  refine r_istore hX e_X2_turnRing_3 (Nat.le_of_ble_eq_true rfl) rfl ?_
  refine r_iconst hX e_X2_turnRing_5 ic_0 ?_
  refine r_istore hX e_X2_turnRing_6 (Nat.le_of_ble_eq_true rfl) rfl ?_
  exact GoN.weak (t_X2_turnRing_8 hX hn hR FU M (a0) (a1) (a2) (0) (0) (0) hf) rfl (sb_s (sb_s (sb_s (sb_s (sb_s (sb_s (sb_z _)))))))
def s_X4_buyersAt_4 (M : Mem) (k4 : Nat → Int32 → Int32 → Int32 → Option (Int32)) (x0 : Nat) (x1 : Int32) (x2 : Int32) (x3 : Int32) : Option (Int32) :=
  gd (oB shC x0 4) <| if (gI M x0 5) ≤ x3 then some x2 else bd (gR M x0 8) fun r2 => gd (aB shC r2 6 x3) <| bd (gR M r2 (x3 : Int32).toNatClampNeg) fun r4 => gd (oB shC r4 1) <| if (gI M r4 0) = x1 then k4 (x0) (x1) ((x2 ||| (1 <<< (x3 &&& 31)))) ((x3 + 1)) else k4 (x0) (x1) (x2) ((x3 + 1))
def f_X4_buyersAt_4 (M : Mem)  : Nat → Nat → Int32 → Int32 → Int32 → Option (Int32)
  | 0 => fun _ _ _ _ => none
  | n + 1 => fun y0 y1 y2 y3 => s_X4_buyersAt_4 M  (f_X4_buyersAt_4 M  n) y0 y1 y2 y3
def f_X4_buyersAt (M : Mem) (a0 : Nat) (a1 : Int32) : Option (Int32) :=
  f_X4_buyersAt_4 M FU (a0) (a1) (0) (0)
theorem t_s_X4_buyersAt_4 {X : Cx} {M : Mem} {res : Int32} {k4 : Nat → Int32 → Int32 → Int32 → Option (Int32)} (hX : OkX X cX4_buyersAt RX4 0 0) (hn : Fit X shC nC) (hR : RetI X shC nC .int (M, res)) (hk4 : ∀ x0 x1 x2 x3, k4 x0 x1 x2 x3 = some res → GoN X shC nC 0 0 M 4 [some (.ref (X.B + x0)), some (.int (x1)), some (.int (x2)), some (.int (x3))] []) (x0 : Nat) (x1 : Int32) (x2 : Int32) (x3 : Int32) (hf : s_X4_buyersAt_4 M k4 x0 x1 x2 x3 = some res) : GoN X shC nC 0 0 M 4 [some (.ref (X.B + x0)), some (.int (x1)), some (.int (x2)), some (.int (x3))] [] := by
  refine r_iload_n (i := 3) hX e_X4_buyersAt_4 rfl rfl ?_
  refine r_aload_n (i := 0) hX e_X4_buyersAt_5 rfl rfl ?_
  obtain ⟨g1, hf⟩ := gd_s hf
  refine r_getI hX hn e_X4_buyersAt_6 fl_4_48 rfl g1 ?_
  refine r_icmp_ge hX e_X4_buyersAt_9 (fun hc => ?_) (fun hc => ?_)
  · have hf := ite_t hf hc
    refine r_iload_n (i := 2) hX e_X4_buyersAt_37 rfl rfl ?_
    exact r_iret hX hR e_X4_buyersAt_38 (ro_s hf)
  · have hf := ite_f hf hc
    refine r_aload_n (i := 0) hX e_X4_buyersAt_12 rfl rfl ?_
    obtain ⟨r2, hr2, hf⟩ := bd_s hf
    refine r_getR hX hn e_X4_buyersAt_13 fl_4_25 rfl g1 hr2 ?_
    refine r_iload_n (i := 3) hX e_X4_buyersAt_16 rfl rfl ?_
    obtain ⟨g3, hf⟩ := gd_s hf
    obtain ⟨r4, hr4, hf⟩ := bd_s hf
    refine r_aald hX hn e_X4_buyersAt_17 g3 (Nat.le_of_ble_eq_true rfl) rfl rfl rfl hr4 ?_
    obtain ⟨g5, hf⟩ := gd_s hf
    refine r_getI hX hn e_X4_buyersAt_18 fl_4_61 rfl g5 ?_
    refine r_iload_n (i := 1) hX e_X4_buyersAt_21 rfl rfl ?_
    refine r_icmp_ne hX e_X4_buyersAt_22 (fun hc => ?_) (fun hc => ?_)
    · have hf := ite_f hf hc
      refine r_iinc (v := x3 + 1) hX e_X4_buyersAt_31 rfl (ii_s ic_1) (Nat.le_of_ble_eq_true rfl) rfl ?_
      refine r_goto hX e_X4_buyersAt_34 ?_
      exact GoN.weak (hk4 (x0) (x1) (x2) ((x3 + 1)) hf) rfl (sb_s (sb_s (sb_s (sb_s (sb_z _)))))
    · have hf := ite_t hf hc
      refine r_iload_n (i := 2) hX e_X4_buyersAt_25 rfl rfl ?_
      refine r_iconst hX e_X4_buyersAt_26 ic_1 ?_
      refine r_iload_n (i := 3) hX e_X4_buyersAt_27 rfl rfl ?_
      refine r_ishl hX e_X4_buyersAt_28 ?_
      refine r_ior hX e_X4_buyersAt_29 ?_
      refine r_istore_n (i := 2) hX e_X4_buyersAt_30 rfl (Nat.le_of_ble_eq_true rfl) rfl ?_
      refine r_iinc (v := x3 + 1) hX e_X4_buyersAt_31 rfl (ii_s ic_1) (Nat.le_of_ble_eq_true rfl) rfl ?_
      refine r_goto hX e_X4_buyersAt_34 ?_
      exact GoN.weak (hk4 (x0) (x1) ((x2 ||| (1 <<< (x3 &&& 31)))) ((x3 + 1)) hf) rfl (sb_s (sb_s (sb_s (sb_s (sb_z _)))))
theorem t_X4_buyersAt_4 {X : Cx} {M : Mem} {res : Int32}  (hX : OkX X cX4_buyersAt RX4 0 0) (hn : Fit X shC nC) (hR : RetI X shC nC .int (M, res))  : ∀ (n : Nat) (x0 : Nat) (x1 : Int32) (x2 : Int32) (x3 : Int32),  f_X4_buyersAt_4 M  n x0 x1 x2 x3 = some res → GoN X shC nC 0 0 M 4 [some (.ref (X.B + x0)), some (.int (x1)), some (.int (x2)), some (.int (x3))] [] := by
  intro n
  induction n with
  | zero => intro x0 x1 x2 x3 hf; cases hf
  | succ n ih => intro x0 x1 x2 x3 hf; exact t_s_X4_buyersAt_4 hX hn hR  ih x0 x1 x2 x3 hf
theorem t_X4_buyersAt {l : Launch} {M : Mem} {a0 : Nat} {a1 : Int32} {res : Int32} (hf : f_X4_buyersAt M a0 a1 = some res) : Ci l yX4_buyersAt cX4_buyersAt 4 (some .int) 0 0 shC nC (fun B => [.ref (B + a0), .int a1]) M (M, res) := by
  refine met_i (own := RX4) (lo := fun B => [some (.ref (B + a0)), some (.int a1), none, none]) (by decide +kernel) rfl shC_ok (fun _ => rfl) (fun _ => rfl) (fun _ => Nat.le_of_ble_eq_true rfl) (fun X hX hn hlx hR => ?_)
  refine r_iconst hX e_X4_buyersAt_0 ic_0 ?_
  refine r_istore_n (i := 2) hX e_X4_buyersAt_1 rfl (Nat.le_of_ble_eq_true rfl) rfl ?_
  refine r_iconst hX e_X4_buyersAt_2 ic_0 ?_
  refine r_istore_n (i := 3) hX e_X4_buyersAt_3 rfl (Nat.le_of_ble_eq_true rfl) rfl ?_
  exact GoN.weak (t_X4_buyersAt_4 hX hn hR FU (a0) (a1) (0) (0) hf) rfl (sb_s (sb_s (sb_s (sb_s (sb_z _)))))
def f_X3_wouldBuy (M : Mem) (a0 : Nat) (a1 : Int32) (a2 : Int32) (a3 : Int32) (a4 : Int32) : Option (Int32) :=
  gd (oB shC a0 3) <| bd (gR M a0 10) fun r2 => gd (oB shC r2 4) <| bd (gR M r2 8) fun r4 => gd (aB shC r4 6 a1) <| bd (gR M r4 (a1 : Int32).toNatClampNeg) fun r6 => gd (oB shC r6 1) <| if (gI M r6 2) = 1 then if (gI M r2 1) ≤ (2 * a4) then some 1 else if (a3 / 2) < a2 then some 0 else some 1 else if (gI M r6 2) = 2 then bd (gR M a0 17) fun r8 => gd (aB shC r8 0 a1) <| if (gI M r8 (a1 : Int32).toNatClampNeg) = a4 then some 1 else if (a4 - 2) ≤ (gI M r8 (a1 : Int32).toNatClampNeg) then some 0 else some 1 else some 1
theorem t_X3_wouldBuy {l : Launch} {M : Mem} {a0 : Nat} {a1 a2 a3 a4 : Int32} {res : Int32} (hf : f_X3_wouldBuy M a0 a1 a2 a3 a4 = some res) : Ci l yX3_wouldBuy cX3_wouldBuy 5 (some .boolean) 0 0 shC nC (fun B => [.ref (B + a0), .int a1, .int a2, .int a3, .int a4]) M (M, res) := by
  refine met_i (own := RX3) (lo := fun B => [some (.ref (B + a0)), some (.int a1), some (.int a2), some (.int a3), some (.int a4)]) (by decide +kernel) rfl shC_ok (fun _ => rfl) (fun _ => rfl) (fun _ => Nat.le_of_ble_eq_true rfl) (fun X hX hn hlx hR => ?_)
  refine r_aload_n (i := 0) hX e_X3_wouldBuy_0 rfl rfl ?_
  obtain ⟨g1, hf⟩ := gd_s hf
  obtain ⟨r2, hr2, hf⟩ := bd_s hf
  refine r_getR hX hn e_X3_wouldBuy_1 fl_3_67 rfl g1 hr2 ?_
  obtain ⟨g3, hf⟩ := gd_s hf
  obtain ⟨r4, hr4, hf⟩ := bd_s hf
  refine r_getR hX hn e_X3_wouldBuy_4 fl_3_118 rfl g3 hr4 ?_
  refine r_iload_n (i := 1) hX e_X3_wouldBuy_7 rfl rfl ?_
  obtain ⟨g5, hf⟩ := gd_s hf
  obtain ⟨r6, hr6, hf⟩ := bd_s hf
  refine r_aald hX hn e_X3_wouldBuy_8 g5 (Nat.le_of_ble_eq_true rfl) rfl rfl rfl hr6 ?_
  obtain ⟨g7, hf⟩ := gd_s hf
  refine r_getI hX hn e_X3_wouldBuy_9 fl_3_171 rfl g7 ?_
  by_cases hs0 : (gI M r6 2) = 1
  · have hf := ite_t hf hs0
    refine r_lookup (tgt := 40) (off := 28) hX e_X3_wouldBuy_12 (by decide) (by rw [hs0]; decide) (by decide) ?_
    refine r_iconst hX e_X3_wouldBuy_40 ic_2 ?_
    refine r_iload hX e_X3_wouldBuy_41 rfl ?_
    refine r_imul hX e_X3_wouldBuy_43 ?_
    refine r_aload_n (i := 0) hX e_X3_wouldBuy_44 rfl rfl ?_
    refine r_getR hX hn e_X3_wouldBuy_45 fl_3_67 rfl g1 hr2 ?_
    refine r_getI hX hn e_X3_wouldBuy_48 fl_3_78 rfl g3 ?_
    refine r_icmp_ge hX e_X3_wouldBuy_51 (fun hc => ?_) (fun hc => ?_)
    · have hf := ite_t hf hc
      refine r_iconst hX e_X3_wouldBuy_61 ic_1 ?_
      refine r_goto hX e_X3_wouldBuy_62 ?_
      exact r_zret hX hR rfl e_X3_wouldBuy_66 (ro_s hf)
    · have hf := ite_f hf hc
      refine r_iload_n (i := 2) hX e_X3_wouldBuy_54 rfl rfl ?_
      refine r_iload_n (i := 3) hX e_X3_wouldBuy_55 rfl rfl ?_
      refine r_iconst hX e_X3_wouldBuy_56 ic_2 ?_
      refine r_idiv hX e_X3_wouldBuy_57 (by decide) ?_
      refine r_icmp_gt hX e_X3_wouldBuy_58 (fun hc => ?_) (fun hc => ?_)
      · have hf := ite_t hf hc
        refine r_iconst hX e_X3_wouldBuy_65 ic_0 ?_
        exact r_zret hX hR rfl e_X3_wouldBuy_66 (ro_s hf)
      · have hf := ite_f hf hc
        refine r_iconst hX e_X3_wouldBuy_61 ic_1 ?_
        refine r_goto hX e_X3_wouldBuy_62 ?_
        exact r_zret hX hR rfl e_X3_wouldBuy_66 (ro_s hf)
  have hf := ite_f hf hs0
  by_cases hs1 : (gI M r6 2) = 2
  · have hf := ite_t hf hs1
    refine r_lookup (tgt := 67) (off := 55) hX e_X3_wouldBuy_12 (by decide) (by rw [hs1]; decide) (by decide) ?_
    refine r_aload_n (i := 0) hX e_X3_wouldBuy_67 rfl rfl ?_
    obtain ⟨r8, hr8, hf⟩ := bd_s hf
    refine r_getR hX hn e_X3_wouldBuy_68 fl_3_64 rfl g1 hr8 ?_
    refine r_iload_n (i := 1) hX e_X3_wouldBuy_71 rfl rfl ?_
    obtain ⟨g9, hf⟩ := gd_s hf
    refine r_iald hX hn e_X3_wouldBuy_72 g9 ?_
    refine r_iload hX e_X3_wouldBuy_73 rfl ?_
    refine r_icmp_eq hX e_X3_wouldBuy_75 (fun hc => ?_) (fun hc => ?_)
    · have hf := ite_t hf hc
      refine r_iconst hX e_X3_wouldBuy_91 ic_1 ?_
      refine r_goto hX e_X3_wouldBuy_92 ?_
      exact r_zret hX hR rfl e_X3_wouldBuy_96 (ro_s hf)
    · have hf := ite_f hf hc
      refine r_aload_n (i := 0) hX e_X3_wouldBuy_78 rfl rfl ?_
      refine r_getR hX hn e_X3_wouldBuy_79 fl_3_64 rfl g1 hr8 ?_
      refine r_iload_n (i := 1) hX e_X3_wouldBuy_82 rfl rfl ?_
      refine r_iald hX hn e_X3_wouldBuy_83 g9 ?_
      refine r_iload hX e_X3_wouldBuy_84 rfl ?_
      refine r_iconst hX e_X3_wouldBuy_86 ic_2 ?_
      refine r_isub hX e_X3_wouldBuy_87 ?_
      refine r_icmp_ge hX e_X3_wouldBuy_88 (fun hc => ?_) (fun hc => ?_)
      · have hf := ite_t hf hc
        refine r_iconst hX e_X3_wouldBuy_95 ic_0 ?_
        exact r_zret hX hR rfl e_X3_wouldBuy_96 (ro_s hf)
      · have hf := ite_f hf hc
        refine r_iconst hX e_X3_wouldBuy_91 ic_1 ?_
        refine r_goto hX e_X3_wouldBuy_92 ?_
        exact r_zret hX hR rfl e_X3_wouldBuy_96 (ro_s hf)
  have hf := ite_f hf hs1
  refine r_lookup (tgt := 97) (off := 85) hX e_X3_wouldBuy_12 (by decide) ?_ (by decide) ?_
  · have z0 : (gI M r6 2).toInt ≠ 1 := i32_ne hs0 (by decide); have z1 : (gI M r6 2).toInt ≠ 2 := i32_ne hs1 (by decide); simp [Op.lookupswitch.offset, z0, z0.symm, z1, z1.symm]
  refine r_iconst hX e_X3_wouldBuy_97 ic_1 ?_
  exact r_zret hX hR rfl e_X3_wouldBuy_98 (ro_s hf)
def s_X3_lackOf_4 (M : Mem) (k4 : Nat → Int32 → Int32 → Int32 → Option (Int32)) (x0 : Nat) (x1 : Int32) (x2 : Int32) (x3 : Int32) : Option (Int32) :=
  gd (oB shC x0 3) <| bd (gR M x0 10) fun r2 => gd (oB shC r2 4) <| bd (gR M r2 8) fun r4 => gd (aB shC r4 6 x1) <| bd (gR M r4 (x1 : Int32).toNatClampNeg) fun r6 => gd (oB shC r6 1) <| if (gI M r6 3) ≤ x3 then some x2 else bd (gR M x0 16) fun r8 => gd (aB shC r8 9 x1) <| bd (gR M r8 (x1 : Int32).toNatClampNeg) fun r10 => gd (aB shC r10 0 x3) <| k4 (x0) (x1) ((x2 + (gI M r10 (x3 : Int32).toNatClampNeg))) ((x3 + 1))
def f_X3_lackOf_4 (M : Mem)  : Nat → Nat → Int32 → Int32 → Int32 → Option (Int32)
  | 0 => fun _ _ _ _ => none
  | n + 1 => fun y0 y1 y2 y3 => s_X3_lackOf_4 M  (f_X3_lackOf_4 M  n) y0 y1 y2 y3
def f_X3_lackOf (M : Mem) (a0 : Nat) (a1 : Int32) : Option (Int32) :=
  f_X3_lackOf_4 M FU (a0) (a1) (0) (0)
theorem t_s_X3_lackOf_4 {X : Cx} {M : Mem} {res : Int32} {k4 : Nat → Int32 → Int32 → Int32 → Option (Int32)} (hX : OkX X cX3_lackOf RX3 0 0) (hn : Fit X shC nC) (hR : RetI X shC nC .int (M, res)) (hk4 : ∀ x0 x1 x2 x3, k4 x0 x1 x2 x3 = some res → GoN X shC nC 0 0 M 4 [some (.ref (X.B + x0)), some (.int (x1)), some (.int (x2)), some (.int (x3))] []) (x0 : Nat) (x1 : Int32) (x2 : Int32) (x3 : Int32) (hf : s_X3_lackOf_4 M k4 x0 x1 x2 x3 = some res) : GoN X shC nC 0 0 M 4 [some (.ref (X.B + x0)), some (.int (x1)), some (.int (x2)), some (.int (x3))] [] := by
  refine r_iload_n (i := 3) hX e_X3_lackOf_4 rfl rfl ?_
  refine r_aload_n (i := 0) hX e_X3_lackOf_5 rfl rfl ?_
  obtain ⟨g1, hf⟩ := gd_s hf
  obtain ⟨r2, hr2, hf⟩ := bd_s hf
  refine r_getR hX hn e_X3_lackOf_6 fl_3_67 rfl g1 hr2 ?_
  obtain ⟨g3, hf⟩ := gd_s hf
  obtain ⟨r4, hr4, hf⟩ := bd_s hf
  refine r_getR hX hn e_X3_lackOf_9 fl_3_118 rfl g3 hr4 ?_
  refine r_iload_n (i := 1) hX e_X3_lackOf_12 rfl rfl ?_
  obtain ⟨g5, hf⟩ := gd_s hf
  obtain ⟨r6, hr6, hf⟩ := bd_s hf
  refine r_aald hX hn e_X3_lackOf_13 g5 (Nat.le_of_ble_eq_true rfl) rfl rfl rfl hr6 ?_
  obtain ⟨g7, hf⟩ := gd_s hf
  refine r_getI hX hn e_X3_lackOf_14 fl_3_128 rfl g7 ?_
  refine r_icmp_ge hX e_X3_lackOf_17 (fun hc => ?_) (fun hc => ?_)
  · have hf := ite_t hf hc
    refine r_iload_n (i := 2) hX e_X3_lackOf_37 rfl rfl ?_
    exact r_iret hX hR e_X3_lackOf_38 (ro_s hf)
  · have hf := ite_f hf hc
    refine r_iload_n (i := 2) hX e_X3_lackOf_20 rfl rfl ?_
    refine r_aload_n (i := 0) hX e_X3_lackOf_21 rfl rfl ?_
    obtain ⟨r8, hr8, hf⟩ := bd_s hf
    refine r_getR hX hn e_X3_lackOf_22 fl_3_61 rfl g1 hr8 ?_
    refine r_iload_n (i := 1) hX e_X3_lackOf_25 rfl rfl ?_
    obtain ⟨g9, hf⟩ := gd_s hf
    obtain ⟨r10, hr10, hf⟩ := bd_s hf
    refine r_aald hX hn e_X3_lackOf_26 g9 (Nat.le_of_ble_eq_true rfl) rfl rfl rfl hr10 ?_
    refine r_iload_n (i := 3) hX e_X3_lackOf_27 rfl rfl ?_
    obtain ⟨g11, hf⟩ := gd_s hf
    refine r_iald hX hn e_X3_lackOf_28 g11 ?_
    refine r_iadd hX e_X3_lackOf_29 ?_
    refine r_istore_n (i := 2) hX e_X3_lackOf_30 rfl (Nat.le_of_ble_eq_true rfl) rfl ?_
    refine r_iinc (v := x3 + 1) hX e_X3_lackOf_31 rfl (ii_s ic_1) (Nat.le_of_ble_eq_true rfl) rfl ?_
    refine r_goto hX e_X3_lackOf_34 ?_
    exact GoN.weak (hk4 (x0) (x1) ((x2 + (gI M r10 (x3 : Int32).toNatClampNeg))) ((x3 + 1)) hf) rfl (sb_s (sb_s (sb_s (sb_s (sb_z _)))))
theorem t_X3_lackOf_4 {X : Cx} {M : Mem} {res : Int32}  (hX : OkX X cX3_lackOf RX3 0 0) (hn : Fit X shC nC) (hR : RetI X shC nC .int (M, res))  : ∀ (n : Nat) (x0 : Nat) (x1 : Int32) (x2 : Int32) (x3 : Int32),  f_X3_lackOf_4 M  n x0 x1 x2 x3 = some res → GoN X shC nC 0 0 M 4 [some (.ref (X.B + x0)), some (.int (x1)), some (.int (x2)), some (.int (x3))] [] := by
  intro n
  induction n with
  | zero => intro x0 x1 x2 x3 hf; cases hf
  | succ n ih => intro x0 x1 x2 x3 hf; exact t_s_X3_lackOf_4 hX hn hR  ih x0 x1 x2 x3 hf
theorem t_X3_lackOf {l : Launch} {M : Mem} {a0 : Nat} {a1 : Int32} {res : Int32} (hf : f_X3_lackOf M a0 a1 = some res) : Ci l yX3_lackOf cX3_lackOf 4 (some .int) 0 0 shC nC (fun B => [.ref (B + a0), .int a1]) M (M, res) := by
  refine met_i (own := RX3) (lo := fun B => [some (.ref (B + a0)), some (.int a1), none, none]) (by decide +kernel) rfl shC_ok (fun _ => rfl) (fun _ => rfl) (fun _ => Nat.le_of_ble_eq_true rfl) (fun X hX hn hlx hR => ?_)
  refine r_iconst hX e_X3_lackOf_0 ic_0 ?_
  refine r_istore_n (i := 2) hX e_X3_lackOf_1 rfl (Nat.le_of_ble_eq_true rfl) rfl ?_
  refine r_iconst hX e_X3_lackOf_2 ic_0 ?_
  refine r_istore_n (i := 3) hX e_X3_lackOf_3 rfl (Nat.le_of_ble_eq_true rfl) rfl ?_
  exact GoN.weak (t_X3_lackOf_4 hX hn hR FU (a0) (a1) (0) (0) hf) rfl (sb_s (sb_s (sb_s (sb_s (sb_z _)))))
def f_X3_sell_54  (M : Mem) (x0 : Nat) (x1 : Int32) (x2 : Int32) (x3 : Int32) : Option (Mem) :=
  gd (oB shC x0 3) <| if 160 ≤ (gI M x0 4) then some M else bd (gR M x0 5) fun r2 => gd (aB shC r2 0 (gI M x0 4)) <| nx (sI M r2 ((gI M x0 4) : Int32).toNatClampNeg x3) fun M4 => bd (gR M4 x0 6) fun r5 => gd (aB shC r5 0 (gI M4 x0 4)) <| nx (sI M4 r5 ((gI M4 x0 4) : Int32).toNatClampNeg x1) fun M7 => bd (gR M7 x0 7) fun r8 => gd (aB shC r8 0 (gI M7 x0 4)) <| nx (sI M7 r8 ((gI M7 x0 4) : Int32).toNatClampNeg x2) fun M10 => bd (gR M10 x0 8) fun r11 => bd (gR M10 x0 11) fun r12 => gd (aB shC r12 0 x1) <| gd (aB shC r11 0 (gI M10 x0 4)) <| nx (sI M10 r11 ((gI M10 x0 4) : Int32).toNatClampNeg (gI M10 r12 (x1 : Int32).toNatClampNeg)) fun M15 => nx (sI M15 x0 4 ((gI M15 x0 4) + 1)) fun M16 => some M16
def f_X3_sell (M : Mem) (a0 : Nat) (a1 : Int32) (a2 : Int32) (a3 : Int32) : Option (Mem) :=
  gd (oB shC a0 3) <| bd (gR M a0 12) fun r2 => gd (aB shC r2 0 a1) <| nx (sI M r2 (a1 : Int32).toNatClampNeg ((gI M r2 (a1 : Int32).toNatClampNeg) - 1)) fun M4 => bd (gR M4 a0 15) fun r5 => gd (aB shC r5 0 a2) <| bd (gR M4 a0 11) fun r7 => gd (aB shC r7 0 a1) <| nx (((gI M4 r5 (a2 : Int32).toNatClampNeg) - (gI M4 r7 (a1 : Int32).toNatClampNeg))) fun v9 => nx (sI M4 r5 (a2 : Int32).toNatClampNeg v9) fun M10 => bd (gR M10 a0 13) fun r11 => gd (aB shC r11 2 a1) <| nx (sI M10 r11 (a1 : Int32).toNatClampNeg (vp_nar .boolean 1)) fun M13 => bd (gR M13 a0 17) fun r14 => gd (aB shC r14 0 a2) <| nx (sI M13 r14 (a2 : Int32).toNatClampNeg a3) fun M16 => bd (f_X3_lackOf M16 a0 a2) fun v17 => if v17 = 0 then bd (gR M16 a0 9) fun r18 => gd (aB shC r18 0 a2) <| nx (sI M16 r18 (a2 : Int32).toNatClampNeg a3) fun M20 => f_X3_sell_54 M20 (a0) (a1) (a2) (a3) else f_X3_sell_54 M16 (a0) (a1) (a2) (a3)
theorem t_X3_sell_54 {X : Cx} {res : Mem}  (hX : OkX X cX3_sell RX3 1 23) (hn : Fit X shC nC) (hR : RetV X shC nC res)  (M : Mem) (x0 : Nat) (x1 : Int32) (x2 : Int32) (x3 : Int32) (hf : f_X3_sell_54  M x0 x1 x2 x3 = some res) : GoN X shC nC 0 0 M 54 [some (.ref (X.B + x0)), some (.int (x1)), some (.int (x2)), some (.int (x3))] [] := by
  refine r_aload_n (i := 0) hX e_X3_sell_54 rfl rfl ?_
  obtain ⟨g1, hf⟩ := gd_s hf
  refine r_getI hX hn e_X3_sell_55 fl_3_98 rfl g1 ?_
  refine r_sipush hX e_X3_sell_58 sc_160 ?_
  refine r_icmp_ge hX e_X3_sell_61 (fun hc => ?_) (fun hc => ?_)
  · have hf := ite_t hf hc
    exact r_ret hX hR e_X3_sell_119 hf
  · have hf := ite_f hf hc
    refine r_aload_n (i := 0) hX e_X3_sell_64 rfl rfl ?_
    obtain ⟨r2, hr2, hf⟩ := bd_s hf
    refine r_getR hX hn e_X3_sell_65 fl_3_29 rfl g1 hr2 ?_
    refine r_aload_n (i := 0) hX e_X3_sell_68 rfl rfl ?_
    refine r_getI hX hn e_X3_sell_69 fl_3_98 rfl g1 ?_
    refine r_iload_n (i := 3) hX e_X3_sell_72 rfl rfl ?_
    obtain ⟨g3, hf⟩ := gd_s hf
    obtain ⟨M4, hM4, hf⟩ := nx_s hf
    refine r_iast hX hn hM4 e_X3_sell_73 g3 ?_
    refine r_aload_n (i := 0) hX e_X3_sell_74 rfl rfl ?_
    obtain ⟨r5, hr5, hf⟩ := bd_s hf
    refine r_getR hX hn e_X3_sell_75 fl_3_33 rfl g1 hr5 ?_
    refine r_aload_n (i := 0) hX e_X3_sell_78 rfl rfl ?_
    refine r_getI hX hn e_X3_sell_79 fl_3_98 rfl g1 ?_
    refine r_iload_n (i := 1) hX e_X3_sell_82 rfl rfl ?_
    obtain ⟨g6, hf⟩ := gd_s hf
    obtain ⟨M7, hM7, hf⟩ := nx_s hf
    refine r_iast hX hn hM7 e_X3_sell_83 g6 ?_
    refine r_aload_n (i := 0) hX e_X3_sell_84 rfl rfl ?_
    obtain ⟨r8, hr8, hf⟩ := bd_s hf
    refine r_getR hX hn e_X3_sell_85 fl_3_36 rfl g1 hr8 ?_
    refine r_aload_n (i := 0) hX e_X3_sell_88 rfl rfl ?_
    refine r_getI hX hn e_X3_sell_89 fl_3_98 rfl g1 ?_
    refine r_iload_n (i := 2) hX e_X3_sell_92 rfl rfl ?_
    obtain ⟨g9, hf⟩ := gd_s hf
    obtain ⟨M10, hM10, hf⟩ := nx_s hf
    refine r_iast hX hn hM10 e_X3_sell_93 g9 ?_
    refine r_aload_n (i := 0) hX e_X3_sell_94 rfl rfl ?_
    obtain ⟨r11, hr11, hf⟩ := bd_s hf
    refine r_getR hX hn e_X3_sell_95 fl_3_39 rfl g1 hr11 ?_
    refine r_aload_n (i := 0) hX e_X3_sell_98 rfl rfl ?_
    refine r_getI hX hn e_X3_sell_99 fl_3_98 rfl g1 ?_
    refine r_aload_n (i := 0) hX e_X3_sell_102 rfl rfl ?_
    obtain ⟨r12, hr12, hf⟩ := bd_s hf
    refine r_getR hX hn e_X3_sell_103 fl_3_45 rfl g1 hr12 ?_
    refine r_iload_n (i := 1) hX e_X3_sell_106 rfl rfl ?_
    obtain ⟨g13, hf⟩ := gd_s hf
    refine r_iald hX hn e_X3_sell_107 g13 ?_
    obtain ⟨g14, hf⟩ := gd_s hf
    obtain ⟨M15, hM15, hf⟩ := nx_s hf
    refine r_iast hX hn hM15 e_X3_sell_108 g14 ?_
    refine r_aload_n (i := 0) hX e_X3_sell_109 rfl rfl ?_
    refine r_dup hX e_X3_sell_110 rfl ?_
    refine r_getI hX hn e_X3_sell_111 fl_3_98 rfl g1 ?_
    refine r_iconst hX e_X3_sell_114 ic_1 ?_
    refine r_iadd hX e_X3_sell_115 ?_
    obtain ⟨M16, hM16, hf⟩ := nx_s hf
    refine r_putI hX hn hM16 e_X3_sell_116 fl_3_98 fp_3_4 rfl g1 ?_
    exact r_ret hX hR e_X3_sell_119 hf
theorem t_X3_sell {l : Launch} {M : Mem} {a0 : Nat} {a1 a2 a3 : Int32} {res : Mem} (hf : f_X3_sell M a0 a1 a2 a3 = some res) : Cv l yX3_sell cX3_sell 4 none 1 23 shC nC (fun B => [.ref (B + a0), .int a1, .int a2, .int a3]) M res := by
  refine met_v (own := RX3) (lo := fun B => [some (.ref (B + a0)), some (.int a1), some (.int a2), some (.int a3)]) (by decide +kernel) rfl shC_ok (fun _ => rfl) (fun _ => rfl) (fun _ => Nat.le_of_ble_eq_true rfl) (fun X hX hn hlx hR => ?_)
  refine r_aload_n (i := 0) hX e_X3_sell_0 rfl rfl ?_
  obtain ⟨g1, hf⟩ := gd_s hf
  obtain ⟨r2, hr2, hf⟩ := bd_s hf
  refine r_getR hX hn e_X3_sell_1 fl_3_48 rfl g1 hr2 ?_
  refine r_iload_n (i := 1) hX e_X3_sell_4 rfl rfl ?_
  refine r_dup2_11 hX e_X3_sell_5 rfl rfl ?_
  obtain ⟨g3, hf⟩ := gd_s hf
  refine r_iald hX hn e_X3_sell_6 g3 ?_
  refine r_iconst hX e_X3_sell_7 ic_1 ?_
  refine r_isub hX e_X3_sell_8 ?_
  obtain ⟨M4, hM4, hf⟩ := nx_s hf
  refine r_iast hX hn hM4 e_X3_sell_9 g3 ?_
  refine r_aload_n (i := 0) hX e_X3_sell_10 rfl rfl ?_
  obtain ⟨r5, hr5, hf⟩ := bd_s hf
  refine r_getR hX hn e_X3_sell_11 fl_3_58 rfl g1 hr5 ?_
  refine r_iload_n (i := 2) hX e_X3_sell_14 rfl rfl ?_
  refine r_dup2_11 hX e_X3_sell_15 rfl rfl ?_
  obtain ⟨g6, hf⟩ := gd_s hf
  refine r_iald hX hn e_X3_sell_16 g6 ?_
  refine r_aload_n (i := 0) hX e_X3_sell_17 rfl rfl ?_
  obtain ⟨r7, hr7, hf⟩ := bd_s hf
  refine r_getR hX hn e_X3_sell_18 fl_3_45 rfl g1 hr7 ?_
  refine r_iload_n (i := 1) hX e_X3_sell_21 rfl rfl ?_
  obtain ⟨g8, hf⟩ := gd_s hf
  refine r_iald hX hn e_X3_sell_22 g8 ?_
  refine r_isub hX e_X3_sell_23 ?_
  obtain ⟨v9, hv9, hf⟩ := nx_s hf
  refine top_i hv9 ?_
  obtain ⟨M10, hM10, hf⟩ := nx_s hf
  refine r_iast hX hn hM10 e_X3_sell_24 g6 ?_
  refine r_aload_n (i := 0) hX e_X3_sell_25 rfl rfl ?_
  obtain ⟨r11, hr11, hf⟩ := bd_s hf
  refine r_getR hX hn e_X3_sell_26 fl_3_51 rfl g1 hr11 ?_
  refine r_iload_n (i := 1) hX e_X3_sell_29 rfl rfl ?_
  refine r_iconst hX e_X3_sell_30 ic_1 ?_
  obtain ⟨g12, hf⟩ := gd_s hf
  obtain ⟨M13, hM13, hf⟩ := nx_s hf
  refine r_zast hX hn hM13 e_X3_sell_31 g12 ?_
  refine r_aload_n (i := 0) hX e_X3_sell_32 rfl rfl ?_
  obtain ⟨r14, hr14, hf⟩ := bd_s hf
  refine r_getR hX hn e_X3_sell_33 fl_3_64 rfl g1 hr14 ?_
  refine r_iload_n (i := 2) hX e_X3_sell_36 rfl rfl ?_
  refine r_iload_n (i := 3) hX e_X3_sell_37 rfl rfl ?_
  obtain ⟨g15, hf⟩ := gd_s hf
  obtain ⟨M16, hM16, hf⟩ := nx_s hf
  refine r_iast hX hn hM16 e_X3_sell_38 g15 ?_
  refine r_aload_n (i := 0) hX e_X3_sell_39 rfl rfl ?_
  refine r_iload_n (i := 2) hX e_X3_sell_40 rfl rfl ?_
  obtain ⟨v17, hv17, hf⟩ := bd_s hf
  refine r_cvi (As := fun B => [.int (a2)]) hX hn (t_X3_lackOf hv17) e_X3_sell_41 cw_X3_lackOf cv_X3_lackOf lk_3_174 ⟨Nat.le_of_ble_eq_true rfl, Nat.le_of_ble_eq_true rfl⟩ (ci := 3) rfl rfl (Nat.le_of_ble_eq_true rfl) g1 rfl rfl (Nat.le_of_ble_eq_true rfl) ⟨Nat.zero_le _, Nat.zero_le _⟩ ?_
  refine r_if_ne hX e_X3_sell_44 (fun hc => ?_) (fun hc => ?_)
  · have hf := ite_f hf hc
    exact GoN.weak (t_X3_sell_54 hX hn hR M16 (a0) (a1) (a2) (a3) hf) rfl (sb_s (sb_s (sb_s (sb_s (sb_z _)))))
  · have hf := ite_t hf hc
    refine r_aload_n (i := 0) hX e_X3_sell_47 rfl rfl ?_
    obtain ⟨r18, hr18, hf⟩ := bd_s hf
    refine r_getR hX hn e_X3_sell_48 fl_3_42 rfl g1 hr18 ?_
    refine r_iload_n (i := 2) hX e_X3_sell_51 rfl rfl ?_
    refine r_iload_n (i := 3) hX e_X3_sell_52 rfl rfl ?_
    obtain ⟨g19, hf⟩ := gd_s hf
    obtain ⟨M20, hM20, hf⟩ := nx_s hf
    refine r_iast hX hn hM20 e_X3_sell_53 g19 ?_
    exact GoN.weak (t_X3_sell_54 hX hn hR M20 (a0) (a1) (a2) (a3) hf) rfl (sb_s (sb_s (sb_s (sb_s (sb_z _)))))
def f_X3_meet_90  (M : Mem) (x0 : Nat) (x1 : Int32) : Option (Mem) :=
  gd (oB shC x0 3) <| bd (gR M x0 14) fun r2 => gd (aB shC r2 2 x1) <| nx (sI M r2 (x1 : Int32).toNatClampNeg (vp_nar .boolean 1)) fun M4 => some M4
def f_X3_meet (M : Mem) (a0 : Nat) (a1 : Int32) (a2 : Int32) (a3 : Int32) : Option (Mem) :=
  gd (oB shC a0 3) <| bd (gR M a0 10) fun r2 => gd (oB shC r2 4) <| bd (gR M r2 8) fun r4 => gd (aB shC r4 6 a2) <| bd (gR M r4 (a2 : Int32).toNatClampNeg) fun r6 => bd (gR M r2 7) fun r7 => gd (aB shC r7 5 a1) <| bd (gR M r7 (a1 : Int32).toNatClampNeg) fun r9 => gd (oB shC r9 9) <| gd (oB shC r6 1) <| bd (f_X1_wantOf M r6 (gI M r9 2)) fun v12 => bd (gR M a0 12) fun r13 => gd (aB shC r13 0 a1) <| if (gI M r13 (a1 : Int32).toNatClampNeg) = 0 then some M else if v12 = (-1) then some M else bd (gR M a0 16) fun r15 => gd (aB shC r15 9 a2) <| bd (gR M r15 (a2 : Int32).toNatClampNeg) fun r17 => gd (aB shC r17 0 v12) <| if (gI M r17 (v12 : Int32).toNatClampNeg) = 0 then some M else bd (gR M a0 11) fun r19 => gd (aB shC r19 0 a1) <| bd (gR M r6 6) fun r21 => gd (aB shC r21 0 v12) <| if (gI M r21 (v12 : Int32).toNatClampNeg) < (gI M r19 (a1 : Int32).toNatClampNeg) then f_X3_meet_90 M (a0) (a1) else bd (gR M a0 15) fun r23 => gd (aB shC r23 0 a2) <| if (gI M r19 (a1 : Int32).toNatClampNeg) ≤ (gI M r23 (a2 : Int32).toNatClampNeg) then bd (f_X3_wouldBuy M a0 a2 (gI M r19 (a1 : Int32).toNatClampNeg) (gI M r21 (v12 : Int32).toNatClampNeg) a3) fun v25 => if v25 = 0 then some M else nx (sI M r17 (v12 : Int32).toNatClampNeg ((gI M r17 (v12 : Int32).toNatClampNeg) - 1)) fun M26 => bd (f_X3_sell M26 a0 a1 a2 a3) fun u27 => some u27 else f_X3_meet_90 M (a0) (a1)
theorem t_X3_meet_90 {X : Cx} {res : Mem}  (hX : OkX X cX3_meet RX3 2 46) (hn : Fit X shC nC) (hR : RetV X shC nC res)  (M : Mem) (x0 : Nat) (x1 : Int32) (hf : f_X3_meet_90  M x0 x1 = some res) : GoN X shC nC 0 0 M 90 [some (.ref (X.B + x0)), some (.int (x1)), none, none, none, none] [] := by
  refine r_aload_n (i := 0) hX e_X3_meet_90 rfl rfl ?_
  obtain ⟨g1, hf⟩ := gd_s hf
  obtain ⟨r2, hr2, hf⟩ := bd_s hf
  refine r_getR hX hn e_X3_meet_91 fl_3_55 rfl g1 hr2 ?_
  refine r_iload_n (i := 1) hX e_X3_meet_94 rfl rfl ?_
  refine r_iconst hX e_X3_meet_95 ic_1 ?_
  obtain ⟨g3, hf⟩ := gd_s hf
  obtain ⟨M4, hM4, hf⟩ := nx_s hf
  refine r_zast hX hn hM4 e_X3_meet_96 g3 ?_
  refine r_goto hX e_X3_meet_97 ?_
  exact r_ret hX hR e_X3_meet_143 hf
theorem t_X3_meet {l : Launch} {M : Mem} {a0 : Nat} {a1 a2 a3 : Int32} {res : Mem} (hf : f_X3_meet M a0 a1 a2 a3 = some res) : Cv l yX3_meet cX3_meet 6 none 2 46 shC nC (fun B => [.ref (B + a0), .int a1, .int a2, .int a3]) M res := by
  refine met_v (own := RX3) (lo := fun B => [some (.ref (B + a0)), some (.int a1), some (.int a2), some (.int a3), none, none]) (by decide +kernel) rfl shC_ok (fun _ => rfl) (fun _ => rfl) (fun _ => Nat.le_of_ble_eq_true rfl) (fun X hX hn hlx hR => ?_)
  refine r_aload_n (i := 0) hX e_X3_meet_0 rfl rfl ?_
  obtain ⟨g1, hf⟩ := gd_s hf
  obtain ⟨r2, hr2, hf⟩ := bd_s hf
  refine r_getR hX hn e_X3_meet_1 fl_3_67 rfl g1 hr2 ?_
  obtain ⟨g3, hf⟩ := gd_s hf
  obtain ⟨r4, hr4, hf⟩ := bd_s hf
  refine r_getR hX hn e_X3_meet_4 fl_3_118 rfl g3 hr4 ?_
  refine r_iload_n (i := 2) hX e_X3_meet_7 rfl rfl ?_
  obtain ⟨g5, hf⟩ := gd_s hf
  obtain ⟨r6, hr6, hf⟩ := bd_s hf
  refine r_aald hX hn e_X3_meet_8 g5 (Nat.le_of_ble_eq_true rfl) rfl rfl rfl hr6 ?_
  refine r_astore hX e_X3_meet_9 (Nat.le_of_ble_eq_true rfl) rfl ?_
  refine r_aload hX e_X3_meet_11 rfl ?_
  refine r_aload_n (i := 0) hX e_X3_meet_13 rfl rfl ?_
  refine r_getR hX hn e_X3_meet_14 fl_3_67 rfl g1 hr2 ?_
  obtain ⟨r7, hr7, hf⟩ := bd_s hf
  refine r_getR hX hn e_X3_meet_17 fl_3_104 rfl g3 hr7 ?_
  refine r_iload_n (i := 1) hX e_X3_meet_20 rfl rfl ?_
  obtain ⟨g8, hf⟩ := gd_s hf
  obtain ⟨r9, hr9, hf⟩ := bd_s hf
  refine r_aald hX hn e_X3_meet_21 g8 (Nat.le_of_ble_eq_true rfl) rfl rfl rfl hr9 ?_
  obtain ⟨g10, hf⟩ := gd_s hf
  refine r_getI hX hn e_X3_meet_22 fl_3_155 rfl g10 ?_
  obtain ⟨g11, hf⟩ := gd_s hf
  obtain ⟨v12, hv12, hf⟩ := bd_s hf
  refine r_cvi (As := fun B => [.int ((gI M r9 2))]) hX hn (t_X1_wantOf hv12) e_X3_meet_25 cw_X1_wantOf cv_X1_wantOf lk_3_158 ⟨Nat.le_of_ble_eq_true rfl, Nat.le_of_ble_eq_true rfl⟩ (ci := 1) rfl rfl (Nat.le_of_ble_eq_true rfl) g11 rfl rfl (Nat.le_of_ble_eq_true rfl) ⟨Nat.zero_le _, Nat.zero_le _⟩ ?_
  refine r_istore hX e_X3_meet_28 (Nat.le_of_ble_eq_true rfl) rfl ?_
  refine r_aload_n (i := 0) hX e_X3_meet_30 rfl rfl ?_
  obtain ⟨r13, hr13, hf⟩ := bd_s hf
  refine r_getR hX hn e_X3_meet_31 fl_3_48 rfl g1 hr13 ?_
  refine r_iload_n (i := 1) hX e_X3_meet_34 rfl rfl ?_
  obtain ⟨g14, hf⟩ := gd_s hf
  refine r_iald hX hn e_X3_meet_35 g14 ?_
  refine r_if_eq hX e_X3_meet_36 (fun hc => ?_) (fun hc => ?_)
  · have hf := ite_t hf hc
    exact r_ret hX hR e_X3_meet_57 hf
  · have hf := ite_f hf hc
    refine r_iload hX e_X3_meet_39 rfl ?_
    refine r_iconst hX e_X3_meet_41 ic_m1 ?_
    refine r_icmp_eq hX e_X3_meet_42 (fun hc => ?_) (fun hc => ?_)
    · have hf := ite_t hf hc
      exact r_ret hX hR e_X3_meet_57 hf
    · have hf := ite_f hf hc
      refine r_aload_n (i := 0) hX e_X3_meet_45 rfl rfl ?_
      obtain ⟨r15, hr15, hf⟩ := bd_s hf
      refine r_getR hX hn e_X3_meet_46 fl_3_61 rfl g1 hr15 ?_
      refine r_iload_n (i := 2) hX e_X3_meet_49 rfl rfl ?_
      obtain ⟨g16, hf⟩ := gd_s hf
      obtain ⟨r17, hr17, hf⟩ := bd_s hf
      refine r_aald hX hn e_X3_meet_50 g16 (Nat.le_of_ble_eq_true rfl) rfl rfl rfl hr17 ?_
      refine r_iload hX e_X3_meet_51 rfl ?_
      obtain ⟨g18, hf⟩ := gd_s hf
      refine r_iald hX hn e_X3_meet_53 g18 ?_
      refine r_if_ne hX e_X3_meet_54 (fun hc => ?_) (fun hc => ?_)
      · have hf := ite_f hf hc
        refine r_aload_n (i := 0) hX e_X3_meet_58 rfl rfl ?_
        obtain ⟨r19, hr19, hf⟩ := bd_s hf
        refine r_getR hX hn e_X3_meet_59 fl_3_45 rfl g1 hr19 ?_
        refine r_iload_n (i := 1) hX e_X3_meet_62 rfl rfl ?_
        obtain ⟨g20, hf⟩ := gd_s hf
        refine r_iald hX hn e_X3_meet_63 g20 ?_
        refine r_aload hX e_X3_meet_64 rfl ?_
        obtain ⟨r21, hr21, hf⟩ := bd_s hf
        refine r_getR hX hn e_X3_meet_66 fl_3_161 rfl g11 hr21 ?_
        refine r_iload hX e_X3_meet_69 rfl ?_
        obtain ⟨g22, hf⟩ := gd_s hf
        refine r_iald hX hn e_X3_meet_71 g22 ?_
        refine r_icmp_gt hX e_X3_meet_72 (fun hc => ?_) (fun hc => ?_)
        · have hf := ite_t hf hc
          exact GoN.weak (t_X3_meet_90 hX hn hR M (a0) (a1) hf) rfl (sb_s (sb_s (sb_n (sb_n (sb_n (sb_n (sb_z _)))))))
        · have hf := ite_f hf hc
          refine r_aload_n (i := 0) hX e_X3_meet_75 rfl rfl ?_
          refine r_getR hX hn e_X3_meet_76 fl_3_45 rfl g1 hr19 ?_
          refine r_iload_n (i := 1) hX e_X3_meet_79 rfl rfl ?_
          refine r_iald hX hn e_X3_meet_80 g20 ?_
          refine r_aload_n (i := 0) hX e_X3_meet_81 rfl rfl ?_
          obtain ⟨r23, hr23, hf⟩ := bd_s hf
          refine r_getR hX hn e_X3_meet_82 fl_3_58 rfl g1 hr23 ?_
          refine r_iload_n (i := 2) hX e_X3_meet_85 rfl rfl ?_
          obtain ⟨g24, hf⟩ := gd_s hf
          refine r_iald hX hn e_X3_meet_86 g24 ?_
          refine r_icmp_le hX e_X3_meet_87 (fun hc => ?_) (fun hc => ?_)
          · have hf := ite_t hf hc
            refine r_aload_n (i := 0) hX e_X3_meet_100 rfl rfl ?_
            refine r_iload_n (i := 2) hX e_X3_meet_101 rfl rfl ?_
            refine r_aload_n (i := 0) hX e_X3_meet_102 rfl rfl ?_
            refine r_getR hX hn e_X3_meet_103 fl_3_45 rfl g1 hr19 ?_
            refine r_iload_n (i := 1) hX e_X3_meet_106 rfl rfl ?_
            refine r_iald hX hn e_X3_meet_107 g20 ?_
            refine r_aload hX e_X3_meet_108 rfl ?_
            refine r_getR hX hn e_X3_meet_110 fl_3_161 rfl g11 hr21 ?_
            refine r_iload hX e_X3_meet_113 rfl ?_
            refine r_iald hX hn e_X3_meet_115 g22 ?_
            refine r_iload_n (i := 3) hX e_X3_meet_116 rfl rfl ?_
            obtain ⟨v25, hv25, hf⟩ := bd_s hf
            refine r_cvi (As := fun B => [.int (a2), .int ((gI M r19 (a1 : Int32).toNatClampNeg)), .int ((gI M r21 (v12 : Int32).toNatClampNeg)), .int (a3)]) hX hn (t_X3_wouldBuy hv25) e_X3_meet_117 cw_X3_wouldBuy cv_X3_wouldBuy lk_3_164 ⟨Nat.le_of_ble_eq_true rfl, Nat.le_of_ble_eq_true rfl⟩ (ci := 3) rfl rfl (Nat.le_of_ble_eq_true rfl) g1 rfl rfl (Nat.le_of_ble_eq_true rfl) ⟨Nat.zero_le _, Nat.zero_le _⟩ ?_
            refine r_if_eq hX e_X3_meet_120 (fun hc => ?_) (fun hc => ?_)
            · have hf := ite_t hf hc
              exact r_ret hX hR e_X3_meet_143 hf
            · have hf := ite_f hf hc
              refine r_aload_n (i := 0) hX e_X3_meet_123 rfl rfl ?_
              refine r_getR hX hn e_X3_meet_124 fl_3_61 rfl g1 hr15 ?_
              refine r_iload_n (i := 2) hX e_X3_meet_127 rfl rfl ?_
              refine r_aald hX hn e_X3_meet_128 g16 (Nat.le_of_ble_eq_true rfl) rfl rfl rfl hr17 ?_
              refine r_iload hX e_X3_meet_129 rfl ?_
              refine r_dup2_11 hX e_X3_meet_131 rfl rfl ?_
              refine r_iald hX hn e_X3_meet_132 g18 ?_
              refine r_iconst hX e_X3_meet_133 ic_1 ?_
              refine r_isub hX e_X3_meet_134 ?_
              obtain ⟨M26, hM26, hf⟩ := nx_s hf
              refine r_iast hX hn hM26 e_X3_meet_135 g18 ?_
              refine r_aload_n (i := 0) hX e_X3_meet_136 rfl rfl ?_
              refine r_iload_n (i := 1) hX e_X3_meet_137 rfl rfl ?_
              refine r_iload_n (i := 2) hX e_X3_meet_138 rfl rfl ?_
              refine r_iload_n (i := 3) hX e_X3_meet_139 rfl rfl ?_
              obtain ⟨u27, hu27, hf⟩ := bd_s hf
              refine r_cvv (As := fun B => [.int (a1), .int (a2), .int (a3)]) hX hn (t_X3_sell hu27) e_X3_meet_140 cw_X3_sell cv_X3_sell lk_3_168 ⟨Nat.le_of_ble_eq_true rfl, Nat.le_of_ble_eq_true rfl⟩ (ci := 3) rfl rfl (Nat.le_of_ble_eq_true rfl) g1 rfl rfl (Nat.le_of_ble_eq_true rfl) ⟨Nat.zero_le _, Nat.zero_le _⟩ ?_
              exact r_ret hX hR e_X3_meet_143 hf
          · have hf := ite_f hf hc
            exact GoN.weak (t_X3_meet_90 hX hn hR M (a0) (a1) hf) rfl (sb_s (sb_s (sb_n (sb_n (sb_n (sb_n (sb_z _)))))))
      · have hf := ite_t hf hc
        exact r_ret hX hR e_X3_meet_57 hf
def s_X3_tradeAt_51 (k17 : Mem → Nat → Int32 → Int32 → Int32 → Int32 → Option (Mem)) (k51 : Mem → Nat → Int32 → Int32 → Int32 → Int32 → Int32 → Option (Mem)) (M : Mem) (x0 : Nat) (x1 : Int32) (x2 : Int32) (x3 : Int32) (x4 : Int32) (x5 : Int32) : Option (Mem) :=
  gd (oB shC x0 3) <| bd (gR M x0 10) fun r2 => gd (oB shC r2 4) <| if (gI M r2 5) ≤ x5 then k17 M (x0) (x1) (x2) (x3) ((x4 + 1)) else if ((x3 >>> (x5 &&& 31)) &&& 1) = 1 then bd (f_X3_meet M x0 x4 x5 x2) fun u4 => k51 u4 (x0) (x1) (x2) (x3) (x4) ((x5 + 1)) else k51 M (x0) (x1) (x2) (x3) (x4) ((x5 + 1))
def f_X3_tradeAt_51 (k17 : Mem → Nat → Int32 → Int32 → Int32 → Int32 → Option (Mem)) : Nat → Mem → Nat → Int32 → Int32 → Int32 → Int32 → Int32 → Option (Mem)
  | 0 => fun _ _ _ _ _ _ _ => none
  | n + 1 => fun y0 y1 y2 y3 y4 y5 y6 => s_X3_tradeAt_51 k17 (f_X3_tradeAt_51 k17 n) y0 y1 y2 y3 y4 y5 y6
def s_X3_tradeAt_17 (k17 : Mem → Nat → Int32 → Int32 → Int32 → Int32 → Option (Mem)) (M : Mem) (x0 : Nat) (x1 : Int32) (x2 : Int32) (x3 : Int32) (x4 : Int32) : Option (Mem) :=
  gd (oB shC x0 3) <| bd (gR M x0 10) fun r2 => gd (oB shC r2 4) <| if (gI M r2 4) ≤ x4 then some M else bd (gR M x0 0) fun r4 => gd (oB shC r4 2) <| bd (gR M r4 1) fun r6 => gd (aB shC r6 9 x4) <| bd (gR M r6 (x4 : Int32).toNatClampNeg) fun r8 => gd (aB shC r8 0 x2) <| if (gI M r8 (x2 : Int32).toNatClampNeg) = x1 then f_X3_tradeAt_51 k17 FU M (x0) (x1) (x2) (x3) (x4) (0) else k17 M (x0) (x1) (x2) (x3) ((x4 + 1))
def f_X3_tradeAt_17  : Nat → Mem → Nat → Int32 → Int32 → Int32 → Int32 → Option (Mem)
  | 0 => fun _ _ _ _ _ _ => none
  | n + 1 => fun y0 y1 y2 y3 y4 y5 => s_X3_tradeAt_17  (f_X3_tradeAt_17  n) y0 y1 y2 y3 y4 y5
def f_X3_tradeAt (M : Mem) (a0 : Nat) (a1 : Int32) (a2 : Int32) : Option (Mem) :=
  gd (oB shC a0 3) <| bd (gR M a0 10) fun r2 => gd (oB shC r2 4) <| bd (f_X4_buyersAt M r2 a1) fun v4 => if v4 = 0 then some M else f_X3_tradeAt_17 FU M (a0) (a1) (a2) (v4) (0)
theorem t_s_X3_tradeAt_51 {X : Cx} {res : Mem} {k17 : Mem → Nat → Int32 → Int32 → Int32 → Int32 → Option (Mem)} {k51 : Mem → Nat → Int32 → Int32 → Int32 → Int32 → Int32 → Option (Mem)} (hX : OkX X cX3_tradeAt RX3 3 71) (hn : Fit X shC nC) (hR : RetV X shC nC res) (hk17 : ∀ M x0 x1 x2 x3 x4, k17 M x0 x1 x2 x3 x4 = some res → GoN X shC nC 0 0 M 17 [some (.ref (X.B + x0)), some (.int (x1)), some (.int (x2)), some (.int (x3)), some (.int (x4)), none] []) (hk51 : ∀ M x0 x1 x2 x3 x4 x5, k51 M x0 x1 x2 x3 x4 x5 = some res → GoN X shC nC 0 0 M 51 [some (.ref (X.B + x0)), some (.int (x1)), some (.int (x2)), some (.int (x3)), some (.int (x4)), some (.int (x5))] []) (M : Mem) (x0 : Nat) (x1 : Int32) (x2 : Int32) (x3 : Int32) (x4 : Int32) (x5 : Int32) (hf : s_X3_tradeAt_51 k17 k51 M x0 x1 x2 x3 x4 x5 = some res) : GoN X shC nC 0 0 M 51 [some (.ref (X.B + x0)), some (.int (x1)), some (.int (x2)), some (.int (x3)), some (.int (x4)), some (.int (x5))] [] := by
  refine r_iload hX e_X3_tradeAt_51 rfl ?_
  refine r_aload_n (i := 0) hX e_X3_tradeAt_53 rfl rfl ?_
  obtain ⟨g1, hf⟩ := gd_s hf
  obtain ⟨r2, hr2, hf⟩ := bd_s hf
  refine r_getR hX hn e_X3_tradeAt_54 fl_3_67 rfl g1 hr2 ?_
  obtain ⟨g3, hf⟩ := gd_s hf
  refine r_getI hX hn e_X3_tradeAt_57 fl_3_115 rfl g3 ?_
  refine r_icmp_ge hX e_X3_tradeAt_60 (fun hc => ?_) (fun hc => ?_)
  · have hf := ite_t hf hc
    refine r_iinc (v := x4 + 1) hX e_X3_tradeAt_88 rfl (ii_s ic_1) (Nat.le_of_ble_eq_true rfl) rfl ?_
    refine r_goto hX e_X3_tradeAt_91 ?_
    exact GoN.weak (hk17 M (x0) (x1) (x2) (x3) ((x4 + 1)) hf) rfl (sb_s (sb_s (sb_s (sb_s (sb_s (sb_n (sb_z _)))))))
  · have hf := ite_f hf hc
    refine r_iload_n (i := 3) hX e_X3_tradeAt_63 rfl rfl ?_
    refine r_iload hX e_X3_tradeAt_64 rfl ?_
    refine r_ishr hX e_X3_tradeAt_66 ?_
    refine r_iconst hX e_X3_tradeAt_67 ic_1 ?_
    refine r_iand hX e_X3_tradeAt_68 ?_
    refine r_iconst hX e_X3_tradeAt_69 ic_1 ?_
    refine r_icmp_ne hX e_X3_tradeAt_70 (fun hc => ?_) (fun hc => ?_)
    · have hf := ite_f hf hc
      refine r_iinc (v := x5 + 1) hX e_X3_tradeAt_82 rfl (ii_s ic_1) (Nat.le_of_ble_eq_true rfl) rfl ?_
      refine r_goto hX e_X3_tradeAt_85 ?_
      exact GoN.weak (hk51 M (x0) (x1) (x2) (x3) (x4) ((x5 + 1)) hf) rfl (sb_s (sb_s (sb_s (sb_s (sb_s (sb_s (sb_z _)))))))
    · have hf := ite_t hf hc
      refine r_aload_n (i := 0) hX e_X3_tradeAt_73 rfl rfl ?_
      refine r_iload hX e_X3_tradeAt_74 rfl ?_
      refine r_iload hX e_X3_tradeAt_76 rfl ?_
      refine r_iload_n (i := 2) hX e_X3_tradeAt_78 rfl rfl ?_
      obtain ⟨u4, hu4, hf⟩ := bd_s hf
      refine r_cvv (As := fun B => [.int (x4), .int (x5), .int (x2)]) hX hn (t_X3_meet hu4) e_X3_tradeAt_79 cw_X3_meet cv_X3_meet lk_3_151 ⟨Nat.le_of_ble_eq_true rfl, Nat.le_of_ble_eq_true rfl⟩ (ci := 3) rfl rfl (Nat.le_of_ble_eq_true rfl) g1 rfl rfl (Nat.le_of_ble_eq_true rfl) ⟨Nat.zero_le _, Nat.zero_le _⟩ ?_
      refine r_iinc (v := x5 + 1) hX e_X3_tradeAt_82 rfl (ii_s ic_1) (Nat.le_of_ble_eq_true rfl) rfl ?_
      refine r_goto hX e_X3_tradeAt_85 ?_
      exact GoN.weak (hk51 u4 (x0) (x1) (x2) (x3) (x4) ((x5 + 1)) hf) rfl (sb_s (sb_s (sb_s (sb_s (sb_s (sb_s (sb_z _)))))))
theorem t_X3_tradeAt_51 {X : Cx} {res : Mem} {k17 : Mem → Nat → Int32 → Int32 → Int32 → Int32 → Option (Mem)} (hX : OkX X cX3_tradeAt RX3 3 71) (hn : Fit X shC nC) (hR : RetV X shC nC res) (hk17 : ∀ M x0 x1 x2 x3 x4, k17 M x0 x1 x2 x3 x4 = some res → GoN X shC nC 0 0 M 17 [some (.ref (X.B + x0)), some (.int (x1)), some (.int (x2)), some (.int (x3)), some (.int (x4)), none] []) : ∀ (n : Nat) (M : Mem) (x0 : Nat) (x1 : Int32) (x2 : Int32) (x3 : Int32) (x4 : Int32) (x5 : Int32),  f_X3_tradeAt_51 k17 n M x0 x1 x2 x3 x4 x5 = some res → GoN X shC nC 0 0 M 51 [some (.ref (X.B + x0)), some (.int (x1)), some (.int (x2)), some (.int (x3)), some (.int (x4)), some (.int (x5))] [] := by
  intro n
  induction n with
  | zero => intro M x0 x1 x2 x3 x4 x5 hf; cases hf
  | succ n ih => intro M x0 x1 x2 x3 x4 x5 hf; exact t_s_X3_tradeAt_51 hX hn hR hk17 ih M x0 x1 x2 x3 x4 x5 hf
theorem t_s_X3_tradeAt_17 {X : Cx} {res : Mem} {k17 : Mem → Nat → Int32 → Int32 → Int32 → Int32 → Option (Mem)} (hX : OkX X cX3_tradeAt RX3 3 71) (hn : Fit X shC nC) (hR : RetV X shC nC res) (hk17 : ∀ M x0 x1 x2 x3 x4, k17 M x0 x1 x2 x3 x4 = some res → GoN X shC nC 0 0 M 17 [some (.ref (X.B + x0)), some (.int (x1)), some (.int (x2)), some (.int (x3)), some (.int (x4)), none] []) (M : Mem) (x0 : Nat) (x1 : Int32) (x2 : Int32) (x3 : Int32) (x4 : Int32) (hf : s_X3_tradeAt_17 k17 M x0 x1 x2 x3 x4 = some res) : GoN X shC nC 0 0 M 17 [some (.ref (X.B + x0)), some (.int (x1)), some (.int (x2)), some (.int (x3)), some (.int (x4)), none] [] := by
  refine r_iload hX e_X3_tradeAt_17 rfl ?_
  refine r_aload_n (i := 0) hX e_X3_tradeAt_19 rfl rfl ?_
  obtain ⟨g1, hf⟩ := gd_s hf
  obtain ⟨r2, hr2, hf⟩ := bd_s hf
  refine r_getR hX hn e_X3_tradeAt_20 fl_3_67 rfl g1 hr2 ?_
  obtain ⟨g3, hf⟩ := gd_s hf
  refine r_getI hX hn e_X3_tradeAt_23 fl_3_101 rfl g3 ?_
  refine r_icmp_ge hX e_X3_tradeAt_26 (fun hc => ?_) (fun hc => ?_)
  · have hf := ite_t hf hc
    exact r_ret hX hR e_X3_tradeAt_94 hf
  · have hf := ite_f hf hc
    refine r_aload_n (i := 0) hX e_X3_tradeAt_29 rfl rfl ?_
    obtain ⟨r4, hr4, hf⟩ := bd_s hf
    refine r_getR hX hn e_X3_tradeAt_30 fl_3_12 rfl g1 hr4 ?_
    obtain ⟨g5, hf⟩ := gd_s hf
    obtain ⟨r6, hr6, hf⟩ := bd_s hf
    refine r_getR hX hn e_X3_tradeAt_33 fl_3_148 rfl g5 hr6 ?_
    refine r_iload hX e_X3_tradeAt_36 rfl ?_
    obtain ⟨g7, hf⟩ := gd_s hf
    obtain ⟨r8, hr8, hf⟩ := bd_s hf
    refine r_aald hX hn e_X3_tradeAt_38 g7 (Nat.le_of_ble_eq_true rfl) rfl rfl rfl hr8 ?_
    refine r_iload_n (i := 2) hX e_X3_tradeAt_39 rfl rfl ?_
    obtain ⟨g9, hf⟩ := gd_s hf
    refine r_iald hX hn e_X3_tradeAt_40 g9 ?_
    refine r_iload_n (i := 1) hX e_X3_tradeAt_41 rfl rfl ?_
    refine r_icmp_eq hX e_X3_tradeAt_42 (fun hc => ?_) (fun hc => ?_)
    · have hf := ite_t hf hc
      refine r_iconst hX e_X3_tradeAt_48 ic_0 ?_
      refine r_istore hX e_X3_tradeAt_49 (Nat.le_of_ble_eq_true rfl) rfl ?_
      exact GoN.weak (t_X3_tradeAt_51 hX hn hR hk17 FU M (x0) (x1) (x2) (x3) (x4) (0) hf) rfl (sb_s (sb_s (sb_s (sb_s (sb_s (sb_s (sb_z _)))))))
    · have hf := ite_f hf hc
      refine r_goto hX e_X3_tradeAt_45 ?_
      refine r_iinc (v := x4 + 1) hX e_X3_tradeAt_88 rfl (ii_s ic_1) (Nat.le_of_ble_eq_true rfl) rfl ?_
      refine r_goto hX e_X3_tradeAt_91 ?_
      exact GoN.weak (hk17 M (x0) (x1) (x2) (x3) ((x4 + 1)) hf) rfl (sb_s (sb_s (sb_s (sb_s (sb_s (sb_n (sb_z _)))))))
theorem t_X3_tradeAt_17 {X : Cx} {res : Mem}  (hX : OkX X cX3_tradeAt RX3 3 71) (hn : Fit X shC nC) (hR : RetV X shC nC res)  : ∀ (n : Nat) (M : Mem) (x0 : Nat) (x1 : Int32) (x2 : Int32) (x3 : Int32) (x4 : Int32),  f_X3_tradeAt_17  n M x0 x1 x2 x3 x4 = some res → GoN X shC nC 0 0 M 17 [some (.ref (X.B + x0)), some (.int (x1)), some (.int (x2)), some (.int (x3)), some (.int (x4)), none] [] := by
  intro n
  induction n with
  | zero => intro M x0 x1 x2 x3 x4 hf; cases hf
  | succ n ih => intro M x0 x1 x2 x3 x4 hf; exact t_s_X3_tradeAt_17 hX hn hR  ih M x0 x1 x2 x3 x4 hf
theorem t_X3_tradeAt {l : Launch} {M : Mem} {a0 : Nat} {a1 a2 : Int32} {res : Mem} (hf : f_X3_tradeAt M a0 a1 a2 = some res) : Cv l yX3_tradeAt cX3_tradeAt 6 none 3 71 shC nC (fun B => [.ref (B + a0), .int a1, .int a2]) M res := by
  refine met_v (own := RX3) (lo := fun B => [some (.ref (B + a0)), some (.int a1), some (.int a2), none, none, none]) (by decide +kernel) rfl shC_ok (fun _ => rfl) (fun _ => rfl) (fun _ => Nat.le_of_ble_eq_true rfl) (fun X hX hn hlx hR => ?_)
  refine r_aload_n (i := 0) hX e_X3_tradeAt_0 rfl rfl ?_
  obtain ⟨g1, hf⟩ := gd_s hf
  obtain ⟨r2, hr2, hf⟩ := bd_s hf
  refine r_getR hX hn e_X3_tradeAt_1 fl_3_67 rfl g1 hr2 ?_
  refine r_iload_n (i := 1) hX e_X3_tradeAt_4 rfl rfl ?_
  obtain ⟨g3, hf⟩ := gd_s hf
  obtain ⟨v4, hv4, hf⟩ := bd_s hf
  refine r_cvi (As := fun B => [.int (a1)]) hX hn (t_X4_buyersAt hv4) e_X3_tradeAt_5 cw_X4_buyersAt cv_X4_buyersAt lk_3_144 ⟨Nat.le_of_ble_eq_true rfl, Nat.le_of_ble_eq_true rfl⟩ (ci := 4) rfl rfl (Nat.le_of_ble_eq_true rfl) g3 rfl rfl (Nat.le_of_ble_eq_true rfl) ⟨Nat.zero_le _, Nat.zero_le _⟩ ?_
  refine r_istore_n (i := 3) hX e_X3_tradeAt_8 rfl (Nat.le_of_ble_eq_true rfl) rfl ?_
  refine r_iload_n (i := 3) hX e_X3_tradeAt_9 rfl rfl ?_
  refine r_if_ne hX e_X3_tradeAt_10 (fun hc => ?_) (fun hc => ?_)
  · have hf := ite_f hf hc
    refine r_iconst hX e_X3_tradeAt_14 ic_0 ?_
    refine r_istore hX e_X3_tradeAt_15 (Nat.le_of_ble_eq_true rfl) rfl ?_
    exact GoN.weak (t_X3_tradeAt_17 hX hn hR FU M (a0) (a1) (a2) (v4) (0) hf) rfl (sb_s (sb_s (sb_s (sb_s (sb_s (sb_n (sb_z _)))))))
  · have hf := ite_t hf hc
    exact r_ret hX hR e_X3_tradeAt_13 hf
def s_X3_salesAt_4 (M : Mem) (k4 : Nat → Int32 → Int32 → Int32 → Option (Int32)) (x0 : Nat) (x1 : Int32) (x2 : Int32) (x3 : Int32) : Option (Int32) :=
  gd (oB shC x0 3) <| if (gI M x0 4) ≤ x3 then some x2 else bd (gR M x0 6) fun r2 => gd (aB shC r2 0 x3) <| if (gI M r2 (x3 : Int32).toNatClampNeg) = x1 then k4 (x0) (x1) ((x2 + 1)) ((x3 + 1)) else k4 (x0) (x1) (x2) ((x3 + 1))
def f_X3_salesAt_4 (M : Mem)  : Nat → Nat → Int32 → Int32 → Int32 → Option (Int32)
  | 0 => fun _ _ _ _ => none
  | n + 1 => fun y0 y1 y2 y3 => s_X3_salesAt_4 M  (f_X3_salesAt_4 M  n) y0 y1 y2 y3
def f_X3_salesAt (M : Mem) (a0 : Nat) (a1 : Int32) : Option (Int32) :=
  f_X3_salesAt_4 M FU (a0) (a1) (0) (0)
theorem t_s_X3_salesAt_4 {X : Cx} {M : Mem} {res : Int32} {k4 : Nat → Int32 → Int32 → Int32 → Option (Int32)} (hX : OkX X cX3_salesAt RX3 0 0) (hn : Fit X shC nC) (hR : RetI X shC nC .int (M, res)) (hk4 : ∀ x0 x1 x2 x3, k4 x0 x1 x2 x3 = some res → GoN X shC nC 0 0 M 4 [some (.ref (X.B + x0)), some (.int (x1)), some (.int (x2)), some (.int (x3))] []) (x0 : Nat) (x1 : Int32) (x2 : Int32) (x3 : Int32) (hf : s_X3_salesAt_4 M k4 x0 x1 x2 x3 = some res) : GoN X shC nC 0 0 M 4 [some (.ref (X.B + x0)), some (.int (x1)), some (.int (x2)), some (.int (x3))] [] := by
  refine r_iload_n (i := 3) hX e_X3_salesAt_4 rfl rfl ?_
  refine r_aload_n (i := 0) hX e_X3_salesAt_5 rfl rfl ?_
  obtain ⟨g1, hf⟩ := gd_s hf
  refine r_getI hX hn e_X3_salesAt_6 fl_3_98 rfl g1 ?_
  refine r_icmp_ge hX e_X3_salesAt_9 (fun hc => ?_) (fun hc => ?_)
  · have hf := ite_t hf hc
    refine r_iload_n (i := 2) hX e_X3_salesAt_31 rfl rfl ?_
    exact r_iret hX hR e_X3_salesAt_32 (ro_s hf)
  · have hf := ite_f hf hc
    refine r_aload_n (i := 0) hX e_X3_salesAt_12 rfl rfl ?_
    obtain ⟨r2, hr2, hf⟩ := bd_s hf
    refine r_getR hX hn e_X3_salesAt_13 fl_3_33 rfl g1 hr2 ?_
    refine r_iload_n (i := 3) hX e_X3_salesAt_16 rfl rfl ?_
    obtain ⟨g3, hf⟩ := gd_s hf
    refine r_iald hX hn e_X3_salesAt_17 g3 ?_
    refine r_iload_n (i := 1) hX e_X3_salesAt_18 rfl rfl ?_
    refine r_icmp_ne hX e_X3_salesAt_19 (fun hc => ?_) (fun hc => ?_)
    · have hf := ite_f hf hc
      refine r_iinc (v := x3 + 1) hX e_X3_salesAt_25 rfl (ii_s ic_1) (Nat.le_of_ble_eq_true rfl) rfl ?_
      refine r_goto hX e_X3_salesAt_28 ?_
      exact GoN.weak (hk4 (x0) (x1) (x2) ((x3 + 1)) hf) rfl (sb_s (sb_s (sb_s (sb_s (sb_z _)))))
    · have hf := ite_t hf hc
      refine r_iinc (v := x2 + 1) hX e_X3_salesAt_22 rfl (ii_s ic_1) (Nat.le_of_ble_eq_true rfl) rfl ?_
      refine r_iinc (v := x3 + 1) hX e_X3_salesAt_25 rfl (ii_s ic_1) (Nat.le_of_ble_eq_true rfl) rfl ?_
      refine r_goto hX e_X3_salesAt_28 ?_
      exact GoN.weak (hk4 (x0) (x1) ((x2 + 1)) ((x3 + 1)) hf) rfl (sb_s (sb_s (sb_s (sb_s (sb_z _)))))
theorem t_X3_salesAt_4 {X : Cx} {M : Mem} {res : Int32}  (hX : OkX X cX3_salesAt RX3 0 0) (hn : Fit X shC nC) (hR : RetI X shC nC .int (M, res))  : ∀ (n : Nat) (x0 : Nat) (x1 : Int32) (x2 : Int32) (x3 : Int32),  f_X3_salesAt_4 M  n x0 x1 x2 x3 = some res → GoN X shC nC 0 0 M 4 [some (.ref (X.B + x0)), some (.int (x1)), some (.int (x2)), some (.int (x3))] [] := by
  intro n
  induction n with
  | zero => intro x0 x1 x2 x3 hf; cases hf
  | succ n ih => intro x0 x1 x2 x3 hf; exact t_s_X3_salesAt_4 hX hn hR  ih x0 x1 x2 x3 hf
theorem t_X3_salesAt {l : Launch} {M : Mem} {a0 : Nat} {a1 : Int32} {res : Int32} (hf : f_X3_salesAt M a0 a1 = some res) : Ci l yX3_salesAt cX3_salesAt 4 (some .int) 0 0 shC nC (fun B => [.ref (B + a0), .int a1]) M (M, res) := by
  refine met_i (own := RX3) (lo := fun B => [some (.ref (B + a0)), some (.int a1), none, none]) (by decide +kernel) rfl shC_ok (fun _ => rfl) (fun _ => rfl) (fun _ => Nat.le_of_ble_eq_true rfl) (fun X hX hn hlx hR => ?_)
  refine r_iconst hX e_X3_salesAt_0 ic_0 ?_
  refine r_istore_n (i := 2) hX e_X3_salesAt_1 rfl (Nat.le_of_ble_eq_true rfl) rfl ?_
  refine r_iconst hX e_X3_salesAt_2 ic_0 ?_
  refine r_istore_n (i := 3) hX e_X3_salesAt_3 rfl (Nat.le_of_ble_eq_true rfl) rfl ?_
  exact GoN.weak (t_X3_salesAt_4 hX hn hR FU (a0) (a1) (0) (0) hf) rfl (sb_s (sb_s (sb_s (sb_s (sb_z _)))))
def s_X3_takenAt_4 (M : Mem) (k4 : Nat → Int32 → Int32 → Int32 → Option (Int32)) (x0 : Nat) (x1 : Int32) (x2 : Int32) (x3 : Int32) : Option (Int32) :=
  gd (oB shC x0 3) <| if (gI M x0 4) ≤ x3 then some x2 else bd (gR M x0 6) fun r2 => gd (aB shC r2 0 x3) <| if (gI M r2 (x3 : Int32).toNatClampNeg) = x1 then bd (gR M x0 8) fun r4 => gd (aB shC r4 0 x3) <| k4 (x0) (x1) ((x2 + (gI M r4 (x3 : Int32).toNatClampNeg))) ((x3 + 1)) else k4 (x0) (x1) (x2) ((x3 + 1))
def f_X3_takenAt_4 (M : Mem)  : Nat → Nat → Int32 → Int32 → Int32 → Option (Int32)
  | 0 => fun _ _ _ _ => none
  | n + 1 => fun y0 y1 y2 y3 => s_X3_takenAt_4 M  (f_X3_takenAt_4 M  n) y0 y1 y2 y3
def f_X3_takenAt (M : Mem) (a0 : Nat) (a1 : Int32) : Option (Int32) :=
  f_X3_takenAt_4 M FU (a0) (a1) (0) (0)
theorem t_s_X3_takenAt_4 {X : Cx} {M : Mem} {res : Int32} {k4 : Nat → Int32 → Int32 → Int32 → Option (Int32)} (hX : OkX X cX3_takenAt RX3 0 0) (hn : Fit X shC nC) (hR : RetI X shC nC .int (M, res)) (hk4 : ∀ x0 x1 x2 x3, k4 x0 x1 x2 x3 = some res → GoN X shC nC 0 0 M 4 [some (.ref (X.B + x0)), some (.int (x1)), some (.int (x2)), some (.int (x3))] []) (x0 : Nat) (x1 : Int32) (x2 : Int32) (x3 : Int32) (hf : s_X3_takenAt_4 M k4 x0 x1 x2 x3 = some res) : GoN X shC nC 0 0 M 4 [some (.ref (X.B + x0)), some (.int (x1)), some (.int (x2)), some (.int (x3))] [] := by
  refine r_iload_n (i := 3) hX e_X3_takenAt_4 rfl rfl ?_
  refine r_aload_n (i := 0) hX e_X3_takenAt_5 rfl rfl ?_
  obtain ⟨g1, hf⟩ := gd_s hf
  refine r_getI hX hn e_X3_takenAt_6 fl_3_98 rfl g1 ?_
  refine r_icmp_ge hX e_X3_takenAt_9 (fun hc => ?_) (fun hc => ?_)
  · have hf := ite_t hf hc
    refine r_iload_n (i := 2) hX e_X3_takenAt_37 rfl rfl ?_
    exact r_iret hX hR e_X3_takenAt_38 (ro_s hf)
  · have hf := ite_f hf hc
    refine r_aload_n (i := 0) hX e_X3_takenAt_12 rfl rfl ?_
    obtain ⟨r2, hr2, hf⟩ := bd_s hf
    refine r_getR hX hn e_X3_takenAt_13 fl_3_33 rfl g1 hr2 ?_
    refine r_iload_n (i := 3) hX e_X3_takenAt_16 rfl rfl ?_
    obtain ⟨g3, hf⟩ := gd_s hf
    refine r_iald hX hn e_X3_takenAt_17 g3 ?_
    refine r_iload_n (i := 1) hX e_X3_takenAt_18 rfl rfl ?_
    refine r_icmp_ne hX e_X3_takenAt_19 (fun hc => ?_) (fun hc => ?_)
    · have hf := ite_f hf hc
      refine r_iinc (v := x3 + 1) hX e_X3_takenAt_31 rfl (ii_s ic_1) (Nat.le_of_ble_eq_true rfl) rfl ?_
      refine r_goto hX e_X3_takenAt_34 ?_
      exact GoN.weak (hk4 (x0) (x1) (x2) ((x3 + 1)) hf) rfl (sb_s (sb_s (sb_s (sb_s (sb_z _)))))
    · have hf := ite_t hf hc
      refine r_iload_n (i := 2) hX e_X3_takenAt_22 rfl rfl ?_
      refine r_aload_n (i := 0) hX e_X3_takenAt_23 rfl rfl ?_
      obtain ⟨r4, hr4, hf⟩ := bd_s hf
      refine r_getR hX hn e_X3_takenAt_24 fl_3_39 rfl g1 hr4 ?_
      refine r_iload_n (i := 3) hX e_X3_takenAt_27 rfl rfl ?_
      obtain ⟨g5, hf⟩ := gd_s hf
      refine r_iald hX hn e_X3_takenAt_28 g5 ?_
      refine r_iadd hX e_X3_takenAt_29 ?_
      refine r_istore_n (i := 2) hX e_X3_takenAt_30 rfl (Nat.le_of_ble_eq_true rfl) rfl ?_
      refine r_iinc (v := x3 + 1) hX e_X3_takenAt_31 rfl (ii_s ic_1) (Nat.le_of_ble_eq_true rfl) rfl ?_
      refine r_goto hX e_X3_takenAt_34 ?_
      exact GoN.weak (hk4 (x0) (x1) ((x2 + (gI M r4 (x3 : Int32).toNatClampNeg))) ((x3 + 1)) hf) rfl (sb_s (sb_s (sb_s (sb_s (sb_z _)))))
theorem t_X3_takenAt_4 {X : Cx} {M : Mem} {res : Int32}  (hX : OkX X cX3_takenAt RX3 0 0) (hn : Fit X shC nC) (hR : RetI X shC nC .int (M, res))  : ∀ (n : Nat) (x0 : Nat) (x1 : Int32) (x2 : Int32) (x3 : Int32),  f_X3_takenAt_4 M  n x0 x1 x2 x3 = some res → GoN X shC nC 0 0 M 4 [some (.ref (X.B + x0)), some (.int (x1)), some (.int (x2)), some (.int (x3))] [] := by
  intro n
  induction n with
  | zero => intro x0 x1 x2 x3 hf; cases hf
  | succ n ih => intro x0 x1 x2 x3 hf; exact t_s_X3_takenAt_4 hX hn hR  ih x0 x1 x2 x3 hf
theorem t_X3_takenAt {l : Launch} {M : Mem} {a0 : Nat} {a1 : Int32} {res : Int32} (hf : f_X3_takenAt M a0 a1 = some res) : Ci l yX3_takenAt cX3_takenAt 4 (some .int) 0 0 shC nC (fun B => [.ref (B + a0), .int a1]) M (M, res) := by
  refine met_i (own := RX3) (lo := fun B => [some (.ref (B + a0)), some (.int a1), none, none]) (by decide +kernel) rfl shC_ok (fun _ => rfl) (fun _ => rfl) (fun _ => Nat.le_of_ble_eq_true rfl) (fun X hX hn hlx hR => ?_)
  refine r_iconst hX e_X3_takenAt_0 ic_0 ?_
  refine r_istore_n (i := 2) hX e_X3_takenAt_1 rfl (Nat.le_of_ble_eq_true rfl) rfl ?_
  refine r_iconst hX e_X3_takenAt_2 ic_0 ?_
  refine r_istore_n (i := 3) hX e_X3_takenAt_3 rfl (Nat.le_of_ble_eq_true rfl) rfl ?_
  exact GoN.weak (t_X3_takenAt_4 hX hn hR FU (a0) (a1) (0) (0) hf) rfl (sb_s (sb_s (sb_s (sb_s (sb_z _)))))
def s_X3_firstMinuteAt_2 (M : Mem) (k2 : Nat → Int32 → Int32 → Option (Int32)) (x0 : Nat) (x1 : Int32) (x2 : Int32) : Option (Int32) :=
  gd (oB shC x0 3) <| if (gI M x0 4) ≤ x2 then some (-1) else bd (gR M x0 6) fun r2 => gd (aB shC r2 0 x2) <| if (gI M r2 (x2 : Int32).toNatClampNeg) = x1 then bd (gR M x0 5) fun r4 => gd (aB shC r4 0 x2) <| some (gI M r4 (x2 : Int32).toNatClampNeg) else k2 (x0) (x1) ((x2 + 1))
def f_X3_firstMinuteAt_2 (M : Mem)  : Nat → Nat → Int32 → Int32 → Option (Int32)
  | 0 => fun _ _ _ => none
  | n + 1 => fun y0 y1 y2 => s_X3_firstMinuteAt_2 M  (f_X3_firstMinuteAt_2 M  n) y0 y1 y2
def f_X3_firstMinuteAt (M : Mem) (a0 : Nat) (a1 : Int32) : Option (Int32) :=
  f_X3_firstMinuteAt_2 M FU (a0) (a1) (0)
theorem t_s_X3_firstMinuteAt_2 {X : Cx} {M : Mem} {res : Int32} {k2 : Nat → Int32 → Int32 → Option (Int32)} (hX : OkX X cX3_firstMinuteAt RX3 0 0) (hn : Fit X shC nC) (hR : RetI X shC nC .int (M, res)) (hk2 : ∀ x0 x1 x2, k2 x0 x1 x2 = some res → GoN X shC nC 0 0 M 2 [some (.ref (X.B + x0)), some (.int (x1)), some (.int (x2))] []) (x0 : Nat) (x1 : Int32) (x2 : Int32) (hf : s_X3_firstMinuteAt_2 M k2 x0 x1 x2 = some res) : GoN X shC nC 0 0 M 2 [some (.ref (X.B + x0)), some (.int (x1)), some (.int (x2))] [] := by
  refine r_iload_n (i := 2) hX e_X3_firstMinuteAt_2 rfl rfl ?_
  refine r_aload_n (i := 0) hX e_X3_firstMinuteAt_3 rfl rfl ?_
  obtain ⟨g1, hf⟩ := gd_s hf
  refine r_getI hX hn e_X3_firstMinuteAt_4 fl_3_98 rfl g1 ?_
  refine r_icmp_ge hX e_X3_firstMinuteAt_7 (fun hc => ?_) (fun hc => ?_)
  · have hf := ite_t hf hc
    refine r_iconst hX e_X3_firstMinuteAt_33 ic_m1 ?_
    exact r_iret hX hR e_X3_firstMinuteAt_34 (ro_s hf)
  · have hf := ite_f hf hc
    refine r_aload_n (i := 0) hX e_X3_firstMinuteAt_10 rfl rfl ?_
    obtain ⟨r2, hr2, hf⟩ := bd_s hf
    refine r_getR hX hn e_X3_firstMinuteAt_11 fl_3_33 rfl g1 hr2 ?_
    refine r_iload_n (i := 2) hX e_X3_firstMinuteAt_14 rfl rfl ?_
    obtain ⟨g3, hf⟩ := gd_s hf
    refine r_iald hX hn e_X3_firstMinuteAt_15 g3 ?_
    refine r_iload_n (i := 1) hX e_X3_firstMinuteAt_16 rfl rfl ?_
    refine r_icmp_ne hX e_X3_firstMinuteAt_17 (fun hc => ?_) (fun hc => ?_)
    · have hf := ite_f hf hc
      refine r_iinc (v := x2 + 1) hX e_X3_firstMinuteAt_27 rfl (ii_s ic_1) (Nat.le_of_ble_eq_true rfl) rfl ?_
      refine r_goto hX e_X3_firstMinuteAt_30 ?_
      exact GoN.weak (hk2 (x0) (x1) ((x2 + 1)) hf) rfl (sb_s (sb_s (sb_s (sb_z _))))
    · have hf := ite_t hf hc
      refine r_aload_n (i := 0) hX e_X3_firstMinuteAt_20 rfl rfl ?_
      obtain ⟨r4, hr4, hf⟩ := bd_s hf
      refine r_getR hX hn e_X3_firstMinuteAt_21 fl_3_29 rfl g1 hr4 ?_
      refine r_iload_n (i := 2) hX e_X3_firstMinuteAt_24 rfl rfl ?_
      obtain ⟨g5, hf⟩ := gd_s hf
      refine r_iald hX hn e_X3_firstMinuteAt_25 g5 ?_
      exact r_iret hX hR e_X3_firstMinuteAt_26 (ro_s hf)
theorem t_X3_firstMinuteAt_2 {X : Cx} {M : Mem} {res : Int32}  (hX : OkX X cX3_firstMinuteAt RX3 0 0) (hn : Fit X shC nC) (hR : RetI X shC nC .int (M, res))  : ∀ (n : Nat) (x0 : Nat) (x1 : Int32) (x2 : Int32),  f_X3_firstMinuteAt_2 M  n x0 x1 x2 = some res → GoN X shC nC 0 0 M 2 [some (.ref (X.B + x0)), some (.int (x1)), some (.int (x2))] [] := by
  intro n
  induction n with
  | zero => intro x0 x1 x2 hf; cases hf
  | succ n ih => intro x0 x1 x2 hf; exact t_s_X3_firstMinuteAt_2 hX hn hR  ih x0 x1 x2 hf
theorem t_X3_firstMinuteAt {l : Launch} {M : Mem} {a0 : Nat} {a1 : Int32} {res : Int32} (hf : f_X3_firstMinuteAt M a0 a1 = some res) : Ci l yX3_firstMinuteAt cX3_firstMinuteAt 3 (some .int) 0 0 shC nC (fun B => [.ref (B + a0), .int a1]) M (M, res) := by
  refine met_i (own := RX3) (lo := fun B => [some (.ref (B + a0)), some (.int a1), none]) (by decide +kernel) rfl shC_ok (fun _ => rfl) (fun _ => rfl) (fun _ => Nat.le_of_ble_eq_true rfl) (fun X hX hn hlx hR => ?_)
  refine r_iconst hX e_X3_firstMinuteAt_0 ic_0 ?_
  refine r_istore_n (i := 2) hX e_X3_firstMinuteAt_1 rfl (Nat.le_of_ble_eq_true rfl) rfl ?_
  exact GoN.weak (t_X3_firstMinuteAt_2 hX hn hR FU (a0) (a1) (0) hf) rfl (sb_s (sb_s (sb_s (sb_z _))))
def s_X3_salesTo_4 (M : Mem) (k4 : Nat → Int32 → Int32 → Int32 → Option (Int32)) (x0 : Nat) (x1 : Int32) (x2 : Int32) (x3 : Int32) : Option (Int32) :=
  gd (oB shC x0 3) <| if (gI M x0 4) ≤ x3 then some x2 else bd (gR M x0 7) fun r2 => gd (aB shC r2 0 x3) <| if (gI M r2 (x3 : Int32).toNatClampNeg) = x1 then k4 (x0) (x1) ((x2 + 1)) ((x3 + 1)) else k4 (x0) (x1) (x2) ((x3 + 1))
def f_X3_salesTo_4 (M : Mem)  : Nat → Nat → Int32 → Int32 → Int32 → Option (Int32)
  | 0 => fun _ _ _ _ => none
  | n + 1 => fun y0 y1 y2 y3 => s_X3_salesTo_4 M  (f_X3_salesTo_4 M  n) y0 y1 y2 y3
def f_X3_salesTo (M : Mem) (a0 : Nat) (a1 : Int32) : Option (Int32) :=
  f_X3_salesTo_4 M FU (a0) (a1) (0) (0)
theorem t_s_X3_salesTo_4 {X : Cx} {M : Mem} {res : Int32} {k4 : Nat → Int32 → Int32 → Int32 → Option (Int32)} (hX : OkX X cX3_salesTo RX3 0 0) (hn : Fit X shC nC) (hR : RetI X shC nC .int (M, res)) (hk4 : ∀ x0 x1 x2 x3, k4 x0 x1 x2 x3 = some res → GoN X shC nC 0 0 M 4 [some (.ref (X.B + x0)), some (.int (x1)), some (.int (x2)), some (.int (x3))] []) (x0 : Nat) (x1 : Int32) (x2 : Int32) (x3 : Int32) (hf : s_X3_salesTo_4 M k4 x0 x1 x2 x3 = some res) : GoN X shC nC 0 0 M 4 [some (.ref (X.B + x0)), some (.int (x1)), some (.int (x2)), some (.int (x3))] [] := by
  refine r_iload_n (i := 3) hX e_X3_salesTo_4 rfl rfl ?_
  refine r_aload_n (i := 0) hX e_X3_salesTo_5 rfl rfl ?_
  obtain ⟨g1, hf⟩ := gd_s hf
  refine r_getI hX hn e_X3_salesTo_6 fl_3_98 rfl g1 ?_
  refine r_icmp_ge hX e_X3_salesTo_9 (fun hc => ?_) (fun hc => ?_)
  · have hf := ite_t hf hc
    refine r_iload_n (i := 2) hX e_X3_salesTo_31 rfl rfl ?_
    exact r_iret hX hR e_X3_salesTo_32 (ro_s hf)
  · have hf := ite_f hf hc
    refine r_aload_n (i := 0) hX e_X3_salesTo_12 rfl rfl ?_
    obtain ⟨r2, hr2, hf⟩ := bd_s hf
    refine r_getR hX hn e_X3_salesTo_13 fl_3_36 rfl g1 hr2 ?_
    refine r_iload_n (i := 3) hX e_X3_salesTo_16 rfl rfl ?_
    obtain ⟨g3, hf⟩ := gd_s hf
    refine r_iald hX hn e_X3_salesTo_17 g3 ?_
    refine r_iload_n (i := 1) hX e_X3_salesTo_18 rfl rfl ?_
    refine r_icmp_ne hX e_X3_salesTo_19 (fun hc => ?_) (fun hc => ?_)
    · have hf := ite_f hf hc
      refine r_iinc (v := x3 + 1) hX e_X3_salesTo_25 rfl (ii_s ic_1) (Nat.le_of_ble_eq_true rfl) rfl ?_
      refine r_goto hX e_X3_salesTo_28 ?_
      exact GoN.weak (hk4 (x0) (x1) (x2) ((x3 + 1)) hf) rfl (sb_s (sb_s (sb_s (sb_s (sb_z _)))))
    · have hf := ite_t hf hc
      refine r_iinc (v := x2 + 1) hX e_X3_salesTo_22 rfl (ii_s ic_1) (Nat.le_of_ble_eq_true rfl) rfl ?_
      refine r_iinc (v := x3 + 1) hX e_X3_salesTo_25 rfl (ii_s ic_1) (Nat.le_of_ble_eq_true rfl) rfl ?_
      refine r_goto hX e_X3_salesTo_28 ?_
      exact GoN.weak (hk4 (x0) (x1) ((x2 + 1)) ((x3 + 1)) hf) rfl (sb_s (sb_s (sb_s (sb_s (sb_z _)))))
theorem t_X3_salesTo_4 {X : Cx} {M : Mem} {res : Int32}  (hX : OkX X cX3_salesTo RX3 0 0) (hn : Fit X shC nC) (hR : RetI X shC nC .int (M, res))  : ∀ (n : Nat) (x0 : Nat) (x1 : Int32) (x2 : Int32) (x3 : Int32),  f_X3_salesTo_4 M  n x0 x1 x2 x3 = some res → GoN X shC nC 0 0 M 4 [some (.ref (X.B + x0)), some (.int (x1)), some (.int (x2)), some (.int (x3))] [] := by
  intro n
  induction n with
  | zero => intro x0 x1 x2 x3 hf; cases hf
  | succ n ih => intro x0 x1 x2 x3 hf; exact t_s_X3_salesTo_4 hX hn hR  ih x0 x1 x2 x3 hf
theorem t_X3_salesTo {l : Launch} {M : Mem} {a0 : Nat} {a1 : Int32} {res : Int32} (hf : f_X3_salesTo M a0 a1 = some res) : Ci l yX3_salesTo cX3_salesTo 4 (some .int) 0 0 shC nC (fun B => [.ref (B + a0), .int a1]) M (M, res) := by
  refine met_i (own := RX3) (lo := fun B => [some (.ref (B + a0)), some (.int a1), none, none]) (by decide +kernel) rfl shC_ok (fun _ => rfl) (fun _ => rfl) (fun _ => Nat.le_of_ble_eq_true rfl) (fun X hX hn hlx hR => ?_)
  refine r_iconst hX e_X3_salesTo_0 ic_0 ?_
  refine r_istore_n (i := 2) hX e_X3_salesTo_1 rfl (Nat.le_of_ble_eq_true rfl) rfl ?_
  refine r_iconst hX e_X3_salesTo_2 ic_0 ?_
  refine r_istore_n (i := 3) hX e_X3_salesTo_3 rfl (Nat.le_of_ble_eq_true rfl) rfl ?_
  exact GoN.weak (t_X3_salesTo_4 hX hn hR FU (a0) (a1) (0) (0) hf) rfl (sb_s (sb_s (sb_s (sb_s (sb_z _)))))
def f_X3_spentBy (M : Mem) (a0 : Nat) (a1 : Int32) : Option (Int32) :=
  gd (oB shC a0 3) <| bd (gR M a0 10) fun r2 => gd (oB shC r2 4) <| bd (gR M r2 8) fun r4 => gd (aB shC r4 6 a1) <| bd (gR M r4 (a1 : Int32).toNatClampNeg) fun r6 => gd (oB shC r6 1) <| bd (gR M a0 15) fun r8 => gd (aB shC r8 0 a1) <| nx (((gI M r6 1) - (gI M r8 (a1 : Int32).toNatClampNeg))) fun v10 => some v10
theorem t_X3_spentBy {l : Launch} {M : Mem} {a0 : Nat} {a1 : Int32} {res : Int32} (hf : f_X3_spentBy M a0 a1 = some res) : Ci l yX3_spentBy cX3_spentBy 2 (some .int) 0 0 shC nC (fun B => [.ref (B + a0), .int a1]) M (M, res) := by
  refine met_i (own := RX3) (lo := fun B => [some (.ref (B + a0)), some (.int a1)]) (by decide +kernel) rfl shC_ok (fun _ => rfl) (fun _ => rfl) (fun _ => Nat.le_of_ble_eq_true rfl) (fun X hX hn hlx hR => ?_)
  refine r_aload_n (i := 0) hX e_X3_spentBy_0 rfl rfl ?_
  obtain ⟨g1, hf⟩ := gd_s hf
  obtain ⟨r2, hr2, hf⟩ := bd_s hf
  refine r_getR hX hn e_X3_spentBy_1 fl_3_67 rfl g1 hr2 ?_
  obtain ⟨g3, hf⟩ := gd_s hf
  obtain ⟨r4, hr4, hf⟩ := bd_s hf
  refine r_getR hX hn e_X3_spentBy_4 fl_3_118 rfl g3 hr4 ?_
  refine r_iload_n (i := 1) hX e_X3_spentBy_7 rfl rfl ?_
  obtain ⟨g5, hf⟩ := gd_s hf
  obtain ⟨r6, hr6, hf⟩ := bd_s hf
  refine r_aald hX hn e_X3_spentBy_8 g5 (Nat.le_of_ble_eq_true rfl) rfl rfl rfl hr6 ?_
  obtain ⟨g7, hf⟩ := gd_s hf
  refine r_getI hX hn e_X3_spentBy_9 fl_3_122 rfl g7 ?_
  refine r_aload_n (i := 0) hX e_X3_spentBy_12 rfl rfl ?_
  obtain ⟨r8, hr8, hf⟩ := bd_s hf
  refine r_getR hX hn e_X3_spentBy_13 fl_3_58 rfl g1 hr8 ?_
  refine r_iload_n (i := 1) hX e_X3_spentBy_16 rfl rfl ?_
  obtain ⟨g9, hf⟩ := gd_s hf
  refine r_iald hX hn e_X3_spentBy_17 g9 ?_
  refine r_isub hX e_X3_spentBy_18 ?_
  obtain ⟨v10, hv10, hf⟩ := nx_s hf
  refine top_i hv10 ?_
  exact r_iret hX hR e_X3_spentBy_19 (ro_s hf)
def s_X3_paidInAll_4 (M : Mem) (k4 : Nat → Int32 → Int32 → Option (Int32)) (x0 : Nat) (x1 : Int32) (x2 : Int32) : Option (Int32) :=
  gd (oB shC x0 3) <| if (gI M x0 4) ≤ x2 then some x1 else bd (gR M x0 8) fun r2 => gd (aB shC r2 0 x2) <| k4 (x0) ((x1 + (gI M r2 (x2 : Int32).toNatClampNeg))) ((x2 + 1))
def f_X3_paidInAll_4 (M : Mem)  : Nat → Nat → Int32 → Int32 → Option (Int32)
  | 0 => fun _ _ _ => none
  | n + 1 => fun y0 y1 y2 => s_X3_paidInAll_4 M  (f_X3_paidInAll_4 M  n) y0 y1 y2
def f_X3_paidInAll (M : Mem) (a0 : Nat) : Option (Int32) :=
  f_X3_paidInAll_4 M FU (a0) (0) (0)
theorem t_s_X3_paidInAll_4 {X : Cx} {M : Mem} {res : Int32} {k4 : Nat → Int32 → Int32 → Option (Int32)} (hX : OkX X cX3_paidInAll RX3 0 0) (hn : Fit X shC nC) (hR : RetI X shC nC .int (M, res)) (hk4 : ∀ x0 x1 x2, k4 x0 x1 x2 = some res → GoN X shC nC 0 0 M 4 [some (.ref (X.B + x0)), some (.int (x1)), some (.int (x2))] []) (x0 : Nat) (x1 : Int32) (x2 : Int32) (hf : s_X3_paidInAll_4 M k4 x0 x1 x2 = some res) : GoN X shC nC 0 0 M 4 [some (.ref (X.B + x0)), some (.int (x1)), some (.int (x2))] [] := by
  refine r_iload_n (i := 2) hX e_X3_paidInAll_4 rfl rfl ?_
  refine r_aload_n (i := 0) hX e_X3_paidInAll_5 rfl rfl ?_
  obtain ⟨g1, hf⟩ := gd_s hf
  refine r_getI hX hn e_X3_paidInAll_6 fl_3_98 rfl g1 ?_
  refine r_icmp_ge hX e_X3_paidInAll_9 (fun hc => ?_) (fun hc => ?_)
  · have hf := ite_t hf hc
    refine r_iload_n (i := 1) hX e_X3_paidInAll_27 rfl rfl ?_
    exact r_iret hX hR e_X3_paidInAll_28 (ro_s hf)
  · have hf := ite_f hf hc
    refine r_iload_n (i := 1) hX e_X3_paidInAll_12 rfl rfl ?_
    refine r_aload_n (i := 0) hX e_X3_paidInAll_13 rfl rfl ?_
    obtain ⟨r2, hr2, hf⟩ := bd_s hf
    refine r_getR hX hn e_X3_paidInAll_14 fl_3_39 rfl g1 hr2 ?_
    refine r_iload_n (i := 2) hX e_X3_paidInAll_17 rfl rfl ?_
    obtain ⟨g3, hf⟩ := gd_s hf
    refine r_iald hX hn e_X3_paidInAll_18 g3 ?_
    refine r_iadd hX e_X3_paidInAll_19 ?_
    refine r_istore_n (i := 1) hX e_X3_paidInAll_20 rfl (Nat.le_of_ble_eq_true rfl) rfl ?_
    refine r_iinc (v := x2 + 1) hX e_X3_paidInAll_21 rfl (ii_s ic_1) (Nat.le_of_ble_eq_true rfl) rfl ?_
    refine r_goto hX e_X3_paidInAll_24 ?_
    exact GoN.weak (hk4 (x0) ((x1 + (gI M r2 (x2 : Int32).toNatClampNeg))) ((x2 + 1)) hf) rfl (sb_s (sb_s (sb_s (sb_z _))))
theorem t_X3_paidInAll_4 {X : Cx} {M : Mem} {res : Int32}  (hX : OkX X cX3_paidInAll RX3 0 0) (hn : Fit X shC nC) (hR : RetI X shC nC .int (M, res))  : ∀ (n : Nat) (x0 : Nat) (x1 : Int32) (x2 : Int32),  f_X3_paidInAll_4 M  n x0 x1 x2 = some res → GoN X shC nC 0 0 M 4 [some (.ref (X.B + x0)), some (.int (x1)), some (.int (x2))] [] := by
  intro n
  induction n with
  | zero => intro x0 x1 x2 hf; cases hf
  | succ n ih => intro x0 x1 x2 hf; exact t_s_X3_paidInAll_4 hX hn hR  ih x0 x1 x2 hf
theorem t_X3_paidInAll {l : Launch} {M : Mem} {a0 : Nat} {res : Int32} (hf : f_X3_paidInAll M a0 = some res) : Ci l yX3_paidInAll cX3_paidInAll 3 (some .int) 0 0 shC nC (fun B => [.ref (B + a0)]) M (M, res) := by
  refine met_i (own := RX3) (lo := fun B => [some (.ref (B + a0)), none, none]) (by decide +kernel) rfl shC_ok (fun _ => rfl) (fun _ => rfl) (fun _ => Nat.le_of_ble_eq_true rfl) (fun X hX hn hlx hR => ?_)
  refine r_iconst hX e_X3_paidInAll_0 ic_0 ?_
  refine r_istore_n (i := 1) hX e_X3_paidInAll_1 rfl (Nat.le_of_ble_eq_true rfl) rfl ?_
  refine r_iconst hX e_X3_paidInAll_2 ic_0 ?_
  refine r_istore_n (i := 2) hX e_X3_paidInAll_3 rfl (Nat.le_of_ble_eq_true rfl) rfl ?_
  exact GoN.weak (t_X3_paidInAll_4 hX hn hR FU (a0) (0) (0) hf) rfl (sb_s (sb_s (sb_s (sb_z _))))
def s_X3_lackInAll_4 (M : Mem) (k4 : Nat → Int32 → Int32 → Option (Int32)) (x0 : Nat) (x1 : Int32) (x2 : Int32) : Option (Int32) :=
  gd (oB shC x0 3) <| bd (gR M x0 10) fun r2 => gd (oB shC r2 4) <| if (gI M r2 5) ≤ x2 then some x1 else bd (f_X3_lackOf M x0 x2) fun v4 => k4 (x0) ((x1 + v4)) ((x2 + 1))
def f_X3_lackInAll_4 (M : Mem)  : Nat → Nat → Int32 → Int32 → Option (Int32)
  | 0 => fun _ _ _ => none
  | n + 1 => fun y0 y1 y2 => s_X3_lackInAll_4 M  (f_X3_lackInAll_4 M  n) y0 y1 y2
def f_X3_lackInAll (M : Mem) (a0 : Nat) : Option (Int32) :=
  f_X3_lackInAll_4 M FU (a0) (0) (0)
theorem t_s_X3_lackInAll_4 {X : Cx} {M : Mem} {res : Int32} {k4 : Nat → Int32 → Int32 → Option (Int32)} (hX : OkX X cX3_lackInAll RX3 1 23) (hn : Fit X shC nC) (hR : RetI X shC nC .int (M, res)) (hk4 : ∀ x0 x1 x2, k4 x0 x1 x2 = some res → GoN X shC nC 0 0 M 4 [some (.ref (X.B + x0)), some (.int (x1)), some (.int (x2))] []) (x0 : Nat) (x1 : Int32) (x2 : Int32) (hf : s_X3_lackInAll_4 M k4 x0 x1 x2 = some res) : GoN X shC nC 0 0 M 4 [some (.ref (X.B + x0)), some (.int (x1)), some (.int (x2))] [] := by
  refine r_iload_n (i := 2) hX e_X3_lackInAll_4 rfl rfl ?_
  refine r_aload_n (i := 0) hX e_X3_lackInAll_5 rfl rfl ?_
  obtain ⟨g1, hf⟩ := gd_s hf
  obtain ⟨r2, hr2, hf⟩ := bd_s hf
  refine r_getR hX hn e_X3_lackInAll_6 fl_3_67 rfl g1 hr2 ?_
  obtain ⟨g3, hf⟩ := gd_s hf
  refine r_getI hX hn e_X3_lackInAll_9 fl_3_115 rfl g3 ?_
  refine r_icmp_ge hX e_X3_lackInAll_12 (fun hc => ?_) (fun hc => ?_)
  · have hf := ite_t hf hc
    refine r_iload_n (i := 1) hX e_X3_lackInAll_29 rfl rfl ?_
    exact r_iret hX hR e_X3_lackInAll_30 (ro_s hf)
  · have hf := ite_f hf hc
    refine r_iload_n (i := 1) hX e_X3_lackInAll_15 rfl rfl ?_
    refine r_aload_n (i := 0) hX e_X3_lackInAll_16 rfl rfl ?_
    refine r_iload_n (i := 2) hX e_X3_lackInAll_17 rfl rfl ?_
    obtain ⟨v4, hv4, hf⟩ := bd_s hf
    refine r_cvi (As := fun B => [.int (x2)]) hX hn (t_X3_lackOf hv4) e_X3_lackInAll_18 cw_X3_lackOf cv_X3_lackOf lk_3_174 ⟨Nat.le_of_ble_eq_true rfl, Nat.le_of_ble_eq_true rfl⟩ (ci := 3) rfl rfl (Nat.le_of_ble_eq_true rfl) g1 rfl rfl (Nat.le_of_ble_eq_true rfl) ⟨Nat.zero_le _, Nat.zero_le _⟩ ?_
    refine r_iadd hX e_X3_lackInAll_21 ?_
    refine r_istore_n (i := 1) hX e_X3_lackInAll_22 rfl (Nat.le_of_ble_eq_true rfl) rfl ?_
    refine r_iinc (v := x2 + 1) hX e_X3_lackInAll_23 rfl (ii_s ic_1) (Nat.le_of_ble_eq_true rfl) rfl ?_
    refine r_goto hX e_X3_lackInAll_26 ?_
    exact GoN.weak (hk4 (x0) ((x1 + v4)) ((x2 + 1)) hf) rfl (sb_s (sb_s (sb_s (sb_z _))))
theorem t_X3_lackInAll_4 {X : Cx} {M : Mem} {res : Int32}  (hX : OkX X cX3_lackInAll RX3 1 23) (hn : Fit X shC nC) (hR : RetI X shC nC .int (M, res))  : ∀ (n : Nat) (x0 : Nat) (x1 : Int32) (x2 : Int32),  f_X3_lackInAll_4 M  n x0 x1 x2 = some res → GoN X shC nC 0 0 M 4 [some (.ref (X.B + x0)), some (.int (x1)), some (.int (x2))] [] := by
  intro n
  induction n with
  | zero => intro x0 x1 x2 hf; cases hf
  | succ n ih => intro x0 x1 x2 hf; exact t_s_X3_lackInAll_4 hX hn hR  ih x0 x1 x2 hf
theorem t_X3_lackInAll {l : Launch} {M : Mem} {a0 : Nat} {res : Int32} (hf : f_X3_lackInAll M a0 = some res) : Ci l yX3_lackInAll cX3_lackInAll 3 (some .int) 1 23 shC nC (fun B => [.ref (B + a0)]) M (M, res) := by
  refine met_i (own := RX3) (lo := fun B => [some (.ref (B + a0)), none, none]) (by decide +kernel) rfl shC_ok (fun _ => rfl) (fun _ => rfl) (fun _ => Nat.le_of_ble_eq_true rfl) (fun X hX hn hlx hR => ?_)
  refine r_iconst hX e_X3_lackInAll_0 ic_0 ?_
  refine r_istore_n (i := 1) hX e_X3_lackInAll_1 rfl (Nat.le_of_ble_eq_true rfl) rfl ?_
  refine r_iconst hX e_X3_lackInAll_2 ic_0 ?_
  refine r_istore_n (i := 2) hX e_X3_lackInAll_3 rfl (Nat.le_of_ble_eq_true rfl) rfl ?_
  exact GoN.weak (t_X3_lackInAll_4 hX hn hR FU (a0) (0) (0) hf) rfl (sb_s (sb_s (sb_s (sb_z _))))
def s_X3_buyersDone_4 (M : Mem) (k4 : Nat → Int32 → Int32 → Option (Int32)) (x0 : Nat) (x1 : Int32) (x2 : Int32) : Option (Int32) :=
  gd (oB shC x0 3) <| bd (gR M x0 10) fun r2 => gd (oB shC r2 4) <| if (gI M r2 5) ≤ x2 then some x1 else bd (gR M x0 9) fun r4 => gd (aB shC r4 0 x2) <| if (gI M r4 (x2 : Int32).toNatClampNeg) = (-1) then k4 (x0) (x1) ((x2 + 1)) else k4 (x0) ((x1 + 1)) ((x2 + 1))
def f_X3_buyersDone_4 (M : Mem)  : Nat → Nat → Int32 → Int32 → Option (Int32)
  | 0 => fun _ _ _ => none
  | n + 1 => fun y0 y1 y2 => s_X3_buyersDone_4 M  (f_X3_buyersDone_4 M  n) y0 y1 y2
def f_X3_buyersDone (M : Mem) (a0 : Nat) : Option (Int32) :=
  f_X3_buyersDone_4 M FU (a0) (0) (0)
theorem t_s_X3_buyersDone_4 {X : Cx} {M : Mem} {res : Int32} {k4 : Nat → Int32 → Int32 → Option (Int32)} (hX : OkX X cX3_buyersDone RX3 0 0) (hn : Fit X shC nC) (hR : RetI X shC nC .int (M, res)) (hk4 : ∀ x0 x1 x2, k4 x0 x1 x2 = some res → GoN X shC nC 0 0 M 4 [some (.ref (X.B + x0)), some (.int (x1)), some (.int (x2))] []) (x0 : Nat) (x1 : Int32) (x2 : Int32) (hf : s_X3_buyersDone_4 M k4 x0 x1 x2 = some res) : GoN X shC nC 0 0 M 4 [some (.ref (X.B + x0)), some (.int (x1)), some (.int (x2))] [] := by
  refine r_iload_n (i := 2) hX e_X3_buyersDone_4 rfl rfl ?_
  refine r_aload_n (i := 0) hX e_X3_buyersDone_5 rfl rfl ?_
  obtain ⟨g1, hf⟩ := gd_s hf
  obtain ⟨r2, hr2, hf⟩ := bd_s hf
  refine r_getR hX hn e_X3_buyersDone_6 fl_3_67 rfl g1 hr2 ?_
  obtain ⟨g3, hf⟩ := gd_s hf
  refine r_getI hX hn e_X3_buyersDone_9 fl_3_115 rfl g3 ?_
  refine r_icmp_ge hX e_X3_buyersDone_12 (fun hc => ?_) (fun hc => ?_)
  · have hf := ite_t hf hc
    refine r_iload_n (i := 1) hX e_X3_buyersDone_34 rfl rfl ?_
    exact r_iret hX hR e_X3_buyersDone_35 (ro_s hf)
  · have hf := ite_f hf hc
    refine r_aload_n (i := 0) hX e_X3_buyersDone_15 rfl rfl ?_
    obtain ⟨r4, hr4, hf⟩ := bd_s hf
    refine r_getR hX hn e_X3_buyersDone_16 fl_3_42 rfl g1 hr4 ?_
    refine r_iload_n (i := 2) hX e_X3_buyersDone_19 rfl rfl ?_
    obtain ⟨g5, hf⟩ := gd_s hf
    refine r_iald hX hn e_X3_buyersDone_20 g5 ?_
    refine r_iconst hX e_X3_buyersDone_21 ic_m1 ?_
    refine r_icmp_eq hX e_X3_buyersDone_22 (fun hc => ?_) (fun hc => ?_)
    · have hf := ite_t hf hc
      refine r_iinc (v := x2 + 1) hX e_X3_buyersDone_28 rfl (ii_s ic_1) (Nat.le_of_ble_eq_true rfl) rfl ?_
      refine r_goto hX e_X3_buyersDone_31 ?_
      exact GoN.weak (hk4 (x0) (x1) ((x2 + 1)) hf) rfl (sb_s (sb_s (sb_s (sb_z _))))
    · have hf := ite_f hf hc
      refine r_iinc (v := x1 + 1) hX e_X3_buyersDone_25 rfl (ii_s ic_1) (Nat.le_of_ble_eq_true rfl) rfl ?_
      refine r_iinc (v := x2 + 1) hX e_X3_buyersDone_28 rfl (ii_s ic_1) (Nat.le_of_ble_eq_true rfl) rfl ?_
      refine r_goto hX e_X3_buyersDone_31 ?_
      exact GoN.weak (hk4 (x0) ((x1 + 1)) ((x2 + 1)) hf) rfl (sb_s (sb_s (sb_s (sb_z _))))
theorem t_X3_buyersDone_4 {X : Cx} {M : Mem} {res : Int32}  (hX : OkX X cX3_buyersDone RX3 0 0) (hn : Fit X shC nC) (hR : RetI X shC nC .int (M, res))  : ∀ (n : Nat) (x0 : Nat) (x1 : Int32) (x2 : Int32),  f_X3_buyersDone_4 M  n x0 x1 x2 = some res → GoN X shC nC 0 0 M 4 [some (.ref (X.B + x0)), some (.int (x1)), some (.int (x2))] [] := by
  intro n
  induction n with
  | zero => intro x0 x1 x2 hf; cases hf
  | succ n ih => intro x0 x1 x2 hf; exact t_s_X3_buyersDone_4 hX hn hR  ih x0 x1 x2 hf
theorem t_X3_buyersDone {l : Launch} {M : Mem} {a0 : Nat} {res : Int32} (hf : f_X3_buyersDone M a0 = some res) : Ci l yX3_buyersDone cX3_buyersDone 3 (some .int) 0 0 shC nC (fun B => [.ref (B + a0)]) M (M, res) := by
  refine met_i (own := RX3) (lo := fun B => [some (.ref (B + a0)), none, none]) (by decide +kernel) rfl shC_ok (fun _ => rfl) (fun _ => rfl) (fun _ => Nat.le_of_ble_eq_true rfl) (fun X hX hn hlx hR => ?_)
  refine r_iconst hX e_X3_buyersDone_0 ic_0 ?_
  refine r_istore_n (i := 1) hX e_X3_buyersDone_1 rfl (Nat.le_of_ble_eq_true rfl) rfl ?_
  refine r_iconst hX e_X3_buyersDone_2 ic_0 ?_
  refine r_istore_n (i := 2) hX e_X3_buyersDone_3 rfl (Nat.le_of_ble_eq_true rfl) rfl ?_
  exact GoN.weak (t_X3_buyersDone_4 hX hn hR FU (a0) (0) (0) hf) rfl (sb_s (sb_s (sb_s (sb_z _))))
def f_X3_busiestMinute_61 (M : Mem) (k9 : Nat → Int32 → Int32 → Int32 → Int32 → Option (Int32)) (x0 : Nat) (x1 : Int32) (x2 : Int32) (x4 : Int32) (s0 : Int32) : Option (Int32) :=
  if s0 ≤ x2 then k9 (x0) (x1) (x2) (s0) ((x4 + 1)) else gd (oB shC x0 3) <| bd (gR M x0 5) fun r2 => gd (aB shC r2 0 x4) <| k9 (x0) ((gI M r2 (x4 : Int32).toNatClampNeg)) (s0) (s0) ((x4 + 1))
def f_X3_busiestMinute_47 (M : Mem) (k9 : Nat → Int32 → Int32 → Int32 → Int32 → Option (Int32)) (x0 : Nat) (x1 : Int32) (x2 : Int32) (x3 : Int32) (x4 : Int32) (s0 : Int32) : Option (Int32) :=
  if s0 = 0 then f_X3_busiestMinute_61 M k9 (x0) (x1) (x2) (x4) (1) else f_X3_busiestMinute_61 M k9 (x0) (x1) (x2) (x4) ((x3 + 1))
def f_X3_busiestMinute_46 (M : Mem) (k9 : Nat → Int32 → Int32 → Int32 → Int32 → Option (Int32)) (x0 : Nat) (x1 : Int32) (x2 : Int32) (x3 : Int32) (x4 : Int32) : Option (Int32) :=
  f_X3_busiestMinute_47 M k9 (x0) (x1) (x2) (x3) (x4) (0)
def s_X3_busiestMinute_9 (M : Mem) (k9 : Nat → Int32 → Int32 → Int32 → Int32 → Option (Int32)) (x0 : Nat) (x1 : Int32) (x2 : Int32) (x3 : Int32) (x4 : Int32) : Option (Int32) :=
  gd (oB shC x0 3) <| if (gI M x0 4) ≤ x4 then some x1 else if x4 ≤ 0 then f_X3_busiestMinute_46 M k9 (x0) (x1) (x2) (x3) (x4) else bd (gR M x0 5) fun r2 => gd (aB shC r2 0 x4) <| gd (aB shC r2 0 (x4 - 1)) <| if (gI M r2 (x4 : Int32).toNatClampNeg) = (gI M r2 ((x4 - 1) : Int32).toNatClampNeg) then f_X3_busiestMinute_47 M k9 (x0) (x1) (x2) (x3) (x4) (1) else f_X3_busiestMinute_46 M k9 (x0) (x1) (x2) (x3) (x4)
def f_X3_busiestMinute_9 (M : Mem)  : Nat → Nat → Int32 → Int32 → Int32 → Int32 → Option (Int32)
  | 0 => fun _ _ _ _ _ => none
  | n + 1 => fun y0 y1 y2 y3 y4 => s_X3_busiestMinute_9 M  (f_X3_busiestMinute_9 M  n) y0 y1 y2 y3 y4
def f_X3_busiestMinute (M : Mem) (a0 : Nat) : Option (Int32) :=
  f_X3_busiestMinute_9 M FU (a0) ((-1)) (0) (0) (0)
theorem t_X3_busiestMinute_61 {X : Cx} {M : Mem} {res : Int32} {k9 : Nat → Int32 → Int32 → Int32 → Int32 → Option (Int32)} (hX : OkX X cX3_busiestMinute RX3 0 0) (hn : Fit X shC nC) (hR : RetI X shC nC .int (M, res)) (hk9 : ∀ x0 x1 x2 x3 x4, k9 x0 x1 x2 x3 x4 = some res → GoN X shC nC 0 0 M 9 [some (.ref (X.B + x0)), some (.int (x1)), some (.int (x2)), some (.int (x3)), some (.int (x4)), none] []) (x0 : Nat) (x1 : Int32) (x2 : Int32) (x4 : Int32) (s0 : Int32) (hf : f_X3_busiestMinute_61 M k9 x0 x1 x2 x4 s0 = some res) : GoN X shC nC 0 0 M 61 [some (.ref (X.B + x0)), some (.int (x1)), some (.int (x2)), none, some (.int (x4)), none] [.int (s0)] := by
  refine r_istore_n (i := 3) hX e_X3_busiestMinute_61 rfl (Nat.le_of_ble_eq_true rfl) rfl ?_
  refine r_iload_n (i := 3) hX e_X3_busiestMinute_62 rfl rfl ?_
  refine r_iload_n (i := 2) hX e_X3_busiestMinute_63 rfl rfl ?_
  refine r_icmp_le hX e_X3_busiestMinute_64 (fun hc => ?_) (fun hc => ?_)
  · have hf := ite_t hf hc
    refine r_iinc (v := x4 + 1) hX e_X3_busiestMinute_77 rfl (ii_s ic_1) (Nat.le_of_ble_eq_true rfl) rfl ?_
    refine r_goto hX e_X3_busiestMinute_80 ?_
    exact GoN.weak (hk9 (x0) (x1) (x2) (s0) ((x4 + 1)) hf) rfl (sb_s (sb_s (sb_s (sb_s (sb_s (sb_n (sb_z _)))))))
  · have hf := ite_f hf hc
    refine r_iload_n (i := 3) hX e_X3_busiestMinute_67 rfl rfl ?_
    refine r_istore_n (i := 2) hX e_X3_busiestMinute_68 rfl (Nat.le_of_ble_eq_true rfl) rfl ?_
    refine r_aload_n (i := 0) hX e_X3_busiestMinute_69 rfl rfl ?_
    obtain ⟨g1, hf⟩ := gd_s hf
    obtain ⟨r2, hr2, hf⟩ := bd_s hf
    refine r_getR hX hn e_X3_busiestMinute_70 fl_3_29 rfl g1 hr2 ?_
    refine r_iload hX e_X3_busiestMinute_73 rfl ?_
    obtain ⟨g3, hf⟩ := gd_s hf
    refine r_iald hX hn e_X3_busiestMinute_75 g3 ?_
    refine r_istore_n (i := 1) hX e_X3_busiestMinute_76 rfl (Nat.le_of_ble_eq_true rfl) rfl ?_
    refine r_iinc (v := x4 + 1) hX e_X3_busiestMinute_77 rfl (ii_s ic_1) (Nat.le_of_ble_eq_true rfl) rfl ?_
    refine r_goto hX e_X3_busiestMinute_80 ?_
    exact GoN.weak (hk9 (x0) ((gI M r2 (x4 : Int32).toNatClampNeg)) (s0) (s0) ((x4 + 1)) hf) rfl (sb_s (sb_s (sb_s (sb_s (sb_s (sb_n (sb_z _)))))))
theorem t_X3_busiestMinute_47 {X : Cx} {M : Mem} {res : Int32} {k9 : Nat → Int32 → Int32 → Int32 → Int32 → Option (Int32)} (hX : OkX X cX3_busiestMinute RX3 0 0) (hn : Fit X shC nC) (hR : RetI X shC nC .int (M, res)) (hk9 : ∀ x0 x1 x2 x3 x4, k9 x0 x1 x2 x3 x4 = some res → GoN X shC nC 0 0 M 9 [some (.ref (X.B + x0)), some (.int (x1)), some (.int (x2)), some (.int (x3)), some (.int (x4)), none] []) (x0 : Nat) (x1 : Int32) (x2 : Int32) (x3 : Int32) (x4 : Int32) (s0 : Int32) (hf : f_X3_busiestMinute_47 M k9 x0 x1 x2 x3 x4 s0 = some res) : GoN X shC nC 0 0 M 47 [some (.ref (X.B + x0)), some (.int (x1)), some (.int (x2)), some (.int (x3)), some (.int (x4)), none] [.int (s0)] := by
  refine r_istore hX e_X3_busiestMinute_47 (Nat.le_of_ble_eq_true rfl) rfl ?_
  refine r_iload hX e_X3_busiestMinute_49 rfl ?_
  refine r_if_eq hX e_X3_busiestMinute_51 (fun hc => ?_) (fun hc => ?_)
  · have hf := ite_t hf hc
    refine r_iconst hX e_X3_busiestMinute_60 ic_1 ?_
    exact GoN.weak (t_X3_busiestMinute_61 hX hn hR hk9 (x0) (x1) (x2) (x4) (1) hf) rfl (sb_s (sb_s (sb_s (sb_n (sb_s (sb_n (sb_z _)))))))
  · have hf := ite_f hf hc
    refine r_iload_n (i := 3) hX e_X3_busiestMinute_54 rfl rfl ?_
    refine r_iconst hX e_X3_busiestMinute_55 ic_1 ?_
    refine r_iadd hX e_X3_busiestMinute_56 ?_
    refine r_goto hX e_X3_busiestMinute_57 ?_
    exact GoN.weak (t_X3_busiestMinute_61 hX hn hR hk9 (x0) (x1) (x2) (x4) ((x3 + 1)) hf) rfl (sb_s (sb_s (sb_s (sb_n (sb_s (sb_n (sb_z _)))))))
theorem t_X3_busiestMinute_46 {X : Cx} {M : Mem} {res : Int32} {k9 : Nat → Int32 → Int32 → Int32 → Int32 → Option (Int32)} (hX : OkX X cX3_busiestMinute RX3 0 0) (hn : Fit X shC nC) (hR : RetI X shC nC .int (M, res)) (hk9 : ∀ x0 x1 x2 x3 x4, k9 x0 x1 x2 x3 x4 = some res → GoN X shC nC 0 0 M 9 [some (.ref (X.B + x0)), some (.int (x1)), some (.int (x2)), some (.int (x3)), some (.int (x4)), none] []) (x0 : Nat) (x1 : Int32) (x2 : Int32) (x3 : Int32) (x4 : Int32) (hf : f_X3_busiestMinute_46 M k9 x0 x1 x2 x3 x4 = some res) : GoN X shC nC 0 0 M 46 [some (.ref (X.B + x0)), some (.int (x1)), some (.int (x2)), some (.int (x3)), some (.int (x4)), none] [] := by
  refine r_iconst hX e_X3_busiestMinute_46 ic_0 ?_
  exact GoN.weak (t_X3_busiestMinute_47 hX hn hR hk9 (x0) (x1) (x2) (x3) (x4) (0) hf) rfl (sb_s (sb_s (sb_s (sb_s (sb_s (sb_n (sb_z _)))))))
theorem t_s_X3_busiestMinute_9 {X : Cx} {M : Mem} {res : Int32} {k9 : Nat → Int32 → Int32 → Int32 → Int32 → Option (Int32)} (hX : OkX X cX3_busiestMinute RX3 0 0) (hn : Fit X shC nC) (hR : RetI X shC nC .int (M, res)) (hk9 : ∀ x0 x1 x2 x3 x4, k9 x0 x1 x2 x3 x4 = some res → GoN X shC nC 0 0 M 9 [some (.ref (X.B + x0)), some (.int (x1)), some (.int (x2)), some (.int (x3)), some (.int (x4)), none] []) (x0 : Nat) (x1 : Int32) (x2 : Int32) (x3 : Int32) (x4 : Int32) (hf : s_X3_busiestMinute_9 M k9 x0 x1 x2 x3 x4 = some res) : GoN X shC nC 0 0 M 9 [some (.ref (X.B + x0)), some (.int (x1)), some (.int (x2)), some (.int (x3)), some (.int (x4)), none] [] := by
  refine r_iload hX e_X3_busiestMinute_9 rfl ?_
  refine r_aload_n (i := 0) hX e_X3_busiestMinute_11 rfl rfl ?_
  obtain ⟨g1, hf⟩ := gd_s hf
  refine r_getI hX hn e_X3_busiestMinute_12 fl_3_98 rfl g1 ?_
  refine r_icmp_ge hX e_X3_busiestMinute_15 (fun hc => ?_) (fun hc => ?_)
  · have hf := ite_t hf hc
    refine r_iload_n (i := 1) hX e_X3_busiestMinute_83 rfl rfl ?_
    exact r_iret hX hR e_X3_busiestMinute_84 (ro_s hf)
  · have hf := ite_f hf hc
    refine r_iload hX e_X3_busiestMinute_18 rfl ?_
    refine r_if_le hX e_X3_busiestMinute_20 (fun hc => ?_) (fun hc => ?_)
    · have hf := ite_t hf hc
      exact GoN.weak (t_X3_busiestMinute_46 hX hn hR hk9 (x0) (x1) (x2) (x3) (x4) hf) rfl (sb_s (sb_s (sb_s (sb_s (sb_s (sb_n (sb_z _)))))))
    · have hf := ite_f hf hc
      refine r_aload_n (i := 0) hX e_X3_busiestMinute_23 rfl rfl ?_
      obtain ⟨r2, hr2, hf⟩ := bd_s hf
      refine r_getR hX hn e_X3_busiestMinute_24 fl_3_29 rfl g1 hr2 ?_
      refine r_iload hX e_X3_busiestMinute_27 rfl ?_
      obtain ⟨g3, hf⟩ := gd_s hf
      refine r_iald hX hn e_X3_busiestMinute_29 g3 ?_
      refine r_aload_n (i := 0) hX e_X3_busiestMinute_30 rfl rfl ?_
      refine r_getR hX hn e_X3_busiestMinute_31 fl_3_29 rfl g1 hr2 ?_
      refine r_iload hX e_X3_busiestMinute_34 rfl ?_
      refine r_iconst hX e_X3_busiestMinute_36 ic_1 ?_
      refine r_isub hX e_X3_busiestMinute_37 ?_
      obtain ⟨g4, hf⟩ := gd_s hf
      refine r_iald hX hn e_X3_busiestMinute_38 g4 ?_
      refine r_icmp_ne hX e_X3_busiestMinute_39 (fun hc => ?_) (fun hc => ?_)
      · have hf := ite_f hf hc
        exact GoN.weak (t_X3_busiestMinute_46 hX hn hR hk9 (x0) (x1) (x2) (x3) (x4) hf) rfl (sb_s (sb_s (sb_s (sb_s (sb_s (sb_n (sb_z _)))))))
      · have hf := ite_t hf hc
        refine r_iconst hX e_X3_busiestMinute_42 ic_1 ?_
        refine r_goto hX e_X3_busiestMinute_43 ?_
        exact GoN.weak (t_X3_busiestMinute_47 hX hn hR hk9 (x0) (x1) (x2) (x3) (x4) (1) hf) rfl (sb_s (sb_s (sb_s (sb_s (sb_s (sb_n (sb_z _)))))))
theorem t_X3_busiestMinute_9 {X : Cx} {M : Mem} {res : Int32}  (hX : OkX X cX3_busiestMinute RX3 0 0) (hn : Fit X shC nC) (hR : RetI X shC nC .int (M, res))  : ∀ (n : Nat) (x0 : Nat) (x1 : Int32) (x2 : Int32) (x3 : Int32) (x4 : Int32),  f_X3_busiestMinute_9 M  n x0 x1 x2 x3 x4 = some res → GoN X shC nC 0 0 M 9 [some (.ref (X.B + x0)), some (.int (x1)), some (.int (x2)), some (.int (x3)), some (.int (x4)), none] [] := by
  intro n
  induction n with
  | zero => intro x0 x1 x2 x3 x4 hf; cases hf
  | succ n ih => intro x0 x1 x2 x3 x4 hf; exact t_s_X3_busiestMinute_9 hX hn hR  ih x0 x1 x2 x3 x4 hf
theorem t_X3_busiestMinute {l : Launch} {M : Mem} {a0 : Nat} {res : Int32} (hf : f_X3_busiestMinute M a0 = some res) : Ci l yX3_busiestMinute cX3_busiestMinute 6 (some .int) 0 0 shC nC (fun B => [.ref (B + a0)]) M (M, res) := by
  refine met_i (own := RX3) (lo := fun B => [some (.ref (B + a0)), none, none, none, none, none]) (by decide +kernel) rfl shC_ok (fun _ => rfl) (fun _ => rfl) (fun _ => Nat.le_of_ble_eq_true rfl) (fun X hX hn hlx hR => ?_)
  refine r_iconst hX e_X3_busiestMinute_0 ic_m1 ?_
  refine r_istore_n (i := 1) hX e_X3_busiestMinute_1 rfl (Nat.le_of_ble_eq_true rfl) rfl ?_
  refine r_iconst hX e_X3_busiestMinute_2 ic_0 ?_
  refine r_istore_n (i := 2) hX e_X3_busiestMinute_3 rfl (Nat.le_of_ble_eq_true rfl) rfl ?_
  refine r_iconst hX e_X3_busiestMinute_4 ic_0 ?_
  refine r_istore_n (i := 3) hX e_X3_busiestMinute_5 rfl (Nat.le_of_ble_eq_true rfl) rfl ?_
  refine r_iconst hX e_X3_busiestMinute_6 ic_0 ?_
  refine r_istore hX e_X3_busiestMinute_7 (Nat.le_of_ble_eq_true rfl) rfl ?_
  exact GoN.weak (t_X3_busiestMinute_9 hX hn hR FU (a0) ((-1)) (0) (0) (0) hf) rfl (sb_s (sb_s (sb_s (sb_s (sb_s (sb_n (sb_z _)))))))
def f_X4_clear (M : Mem) (a0 : Nat) : Option (Mem) :=
  gd (oB shC a0 4) <| nx (sI M a0 0 0) fun M2 => nx (sI M2 a0 1 0) fun M3 => nx (sI M3 a0 2 0) fun M4 => nx (sI M4 a0 3 0) fun M5 => nx (sI M5 a0 4 0) fun M6 => nx (sI M6 a0 5 0) fun M7 => some M7
theorem t_X4_clear {l : Launch} {M : Mem} {a0 : Nat} {res : Mem} (hf : f_X4_clear M a0 = some res) : Cv l yX4_clear cX4_clear 1 none 0 0 shC nC (fun B => [.ref (B + a0)]) M res := by
  refine met_v (own := RX4) (lo := fun B => [some (.ref (B + a0))]) (by decide +kernel) rfl shC_ok (fun _ => rfl) (fun _ => rfl) (fun _ => Nat.le_of_ble_eq_true rfl) (fun X hX hn hlx hR => ?_)
  refine r_aload_n (i := 0) hX e_X4_clear_0 rfl rfl ?_
  refine r_iconst hX e_X4_clear_1 ic_0 ?_
  obtain ⟨g1, hf⟩ := gd_s hf
  obtain ⟨M2, hM2, hf⟩ := nx_s hf
  refine r_putI hX hn hM2 e_X4_clear_2 fl_4_32 fp_4_0 rfl g1 ?_
  refine r_aload_n (i := 0) hX e_X4_clear_5 rfl rfl ?_
  refine r_iconst hX e_X4_clear_6 ic_0 ?_
  obtain ⟨M3, hM3, hf⟩ := nx_s hf
  refine r_putI hX hn hM3 e_X4_clear_7 fl_4_36 fp_4_1 rfl g1 ?_
  refine r_aload_n (i := 0) hX e_X4_clear_10 rfl rfl ?_
  refine r_iconst hX e_X4_clear_11 ic_0 ?_
  obtain ⟨M4, hM4, hf⟩ := nx_s hf
  refine r_putI hX hn hM4 e_X4_clear_12 fl_4_39 fp_4_2 rfl g1 ?_
  refine r_aload_n (i := 0) hX e_X4_clear_15 rfl rfl ?_
  refine r_iconst hX e_X4_clear_16 ic_0 ?_
  obtain ⟨M5, hM5, hf⟩ := nx_s hf
  refine r_putI hX hn hM5 e_X4_clear_17 fl_4_42 fp_4_3 rfl g1 ?_
  refine r_aload_n (i := 0) hX e_X4_clear_20 rfl rfl ?_
  refine r_iconst hX e_X4_clear_21 ic_0 ?_
  obtain ⟨M6, hM6, hf⟩ := nx_s hf
  refine r_putI hX hn hM6 e_X4_clear_22 fl_4_45 fp_4_4 rfl g1 ?_
  refine r_aload_n (i := 0) hX e_X4_clear_25 rfl rfl ?_
  refine r_iconst hX e_X4_clear_26 ic_0 ?_
  obtain ⟨M7, hM7, hf⟩ := nx_s hf
  refine r_putI hX hn hM7 e_X4_clear_27 fl_4_48 fp_4_5 rfl g1 ?_
  exact r_ret hX hR e_X4_clear_30 hf
def f_X7_take (M : Mem) (a0 : Nat) (a1 : Nat) : Option (Mem) :=
  gd (oB shC a1 7) <| gd (oB shC a0 7) <| nx (sI M a0 0 (gI M a1 0)) fun M3 => gd (isZ (gI M3 a1 1)) <| nx (sI M3 a0 1 (gI M3 a1 1)) fun M5 => nx (sL M5 a0 2 (gL M5 a1 2)) fun M6 => some M6
theorem t_X7_take {l : Launch} {M : Mem} {a0 a1 : Nat} {res : Mem} (hf : f_X7_take M a0 a1 = some res) : Cv l yX7_take cX7_take 2 none 0 0 shC nC (fun B => [.ref (B + a0), .ref (B + a1)]) M res := by
  refine met_v (own := RX7) (lo := fun B => [some (.ref (B + a0)), some (.ref (B + a1))]) (by decide +kernel) rfl shC_ok (fun _ => rfl) (fun _ => rfl) (fun _ => Nat.le_of_ble_eq_true rfl) (fun X hX hn hlx hR => ?_)
  refine r_aload_n (i := 0) hX e_X7_take_0 rfl rfl ?_
  refine r_aload_n (i := 1) hX e_X7_take_1 rfl rfl ?_
  obtain ⟨g1, hf⟩ := gd_s hf
  refine r_getI hX hn e_X7_take_2 fl_7_7 rfl g1 ?_
  obtain ⟨g2, hf⟩ := gd_s hf
  obtain ⟨M3, hM3, hf⟩ := nx_s hf
  refine r_putI hX hn hM3 e_X7_take_5 fl_7_7 fp_7_0 rfl g2 ?_
  refine r_aload_n (i := 0) hX e_X7_take_8 rfl rfl ?_
  refine r_aload_n (i := 1) hX e_X7_take_9 rfl rfl ?_
  refine r_getI hX hn e_X7_take_10 fl_7_13 rfl g1 ?_
  obtain ⟨g4, hf⟩ := gd_s hf
  obtain ⟨M5, hM5, hf⟩ := nx_s hf
  refine r_putZ hX hn hM5 g4 e_X7_take_13 fl_7_13 fp_7_1 rfl g2 ?_
  refine r_aload_n (i := 0) hX e_X7_take_16 rfl rfl ?_
  refine r_aload_n (i := 1) hX e_X7_take_17 rfl rfl ?_
  refine r_getL hX hn e_X7_take_18 fl_7_17 rfl g1 ?_
  obtain ⟨M6, hM6, hf⟩ := nx_s hf
  refine r_putL hX hn hM6 e_X7_take_21 fl_7_17 fp_7_2 rfl g2 ?_
  exact r_ret hX hR e_X7_take_24 hf
def f_X9_take (M : Mem) (a0 : Nat) (a1 : Nat) : Option (Mem) :=
  gd (oB shC a1 9) <| gd (oB shC a0 9) <| nx (sI M a0 0 (gI M a1 0)) fun M3 => nx (sI M3 a0 1 (gI M3 a1 1)) fun M4 => nx (sI M4 a0 2 (gI M4 a1 2)) fun M5 => nx (sI M5 a0 3 (gI M5 a1 3)) fun M6 => nx (sI M6 a0 4 (gI M6 a1 4)) fun M7 => nx (sI M7 a0 5 (gI M7 a1 5)) fun M8 => nx (sI M8 a0 6 (gI M8 a1 6)) fun M9 => some M9
theorem t_X9_take {l : Launch} {M : Mem} {a0 a1 : Nat} {res : Mem} (hf : f_X9_take M a0 a1 = some res) : Cv l yX9_take cX9_take 2 none 0 0 shC nC (fun B => [.ref (B + a0), .ref (B + a1)]) M res := by
  refine met_v (own := RX9) (lo := fun B => [some (.ref (B + a0)), some (.ref (B + a1))]) (by decide +kernel) rfl shC_ok (fun _ => rfl) (fun _ => rfl) (fun _ => Nat.le_of_ble_eq_true rfl) (fun X hX hn hlx hR => ?_)
  refine r_aload_n (i := 0) hX e_X9_take_0 rfl rfl ?_
  refine r_aload_n (i := 1) hX e_X9_take_1 rfl rfl ?_
  obtain ⟨g1, hf⟩ := gd_s hf
  refine r_getI hX hn e_X9_take_2 fl_9_7 rfl g1 ?_
  obtain ⟨g2, hf⟩ := gd_s hf
  obtain ⟨M3, hM3, hf⟩ := nx_s hf
  refine r_putI hX hn hM3 e_X9_take_5 fl_9_7 fp_9_0 rfl g2 ?_
  refine r_aload_n (i := 0) hX e_X9_take_8 rfl rfl ?_
  refine r_aload_n (i := 1) hX e_X9_take_9 rfl rfl ?_
  refine r_getI hX hn e_X9_take_10 fl_9_13 rfl g1 ?_
  obtain ⟨M4, hM4, hf⟩ := nx_s hf
  refine r_putI hX hn hM4 e_X9_take_13 fl_9_13 fp_9_1 rfl g2 ?_
  refine r_aload_n (i := 0) hX e_X9_take_16 rfl rfl ?_
  refine r_aload_n (i := 1) hX e_X9_take_17 rfl rfl ?_
  refine r_getI hX hn e_X9_take_18 fl_9_16 rfl g1 ?_
  obtain ⟨M5, hM5, hf⟩ := nx_s hf
  refine r_putI hX hn hM5 e_X9_take_21 fl_9_16 fp_9_2 rfl g2 ?_
  refine r_aload_n (i := 0) hX e_X9_take_24 rfl rfl ?_
  refine r_aload_n (i := 1) hX e_X9_take_25 rfl rfl ?_
  refine r_getI hX hn e_X9_take_26 fl_9_19 rfl g1 ?_
  obtain ⟨M6, hM6, hf⟩ := nx_s hf
  refine r_putI hX hn hM6 e_X9_take_29 fl_9_19 fp_9_3 rfl g2 ?_
  refine r_aload_n (i := 0) hX e_X9_take_32 rfl rfl ?_
  refine r_aload_n (i := 1) hX e_X9_take_33 rfl rfl ?_
  refine r_getI hX hn e_X9_take_34 fl_9_22 rfl g1 ?_
  obtain ⟨M7, hM7, hf⟩ := nx_s hf
  refine r_putI hX hn hM7 e_X9_take_37 fl_9_22 fp_9_4 rfl g2 ?_
  refine r_aload_n (i := 0) hX e_X9_take_40 rfl rfl ?_
  refine r_aload_n (i := 1) hX e_X9_take_41 rfl rfl ?_
  refine r_getI hX hn e_X9_take_42 fl_9_25 rfl g1 ?_
  obtain ⟨M8, hM8, hf⟩ := nx_s hf
  refine r_putI hX hn hM8 e_X9_take_45 fl_9_25 fp_9_5 rfl g2 ?_
  refine r_aload_n (i := 0) hX e_X9_take_48 rfl rfl ?_
  refine r_aload_n (i := 1) hX e_X9_take_49 rfl rfl ?_
  refine r_getI hX hn e_X9_take_50 fl_9_28 rfl g1 ?_
  obtain ⟨M9, hM9, hf⟩ := nx_s hf
  refine r_putI hX hn hM9 e_X9_take_53 fl_9_28 fp_9_6 rfl g2 ?_
  exact r_ret hX hR e_X9_take_56 hf
def f_X4_isTold (M : Mem) (a0 : Nat) : Option (Int32) :=
  gd (oB shC a0 4) <| if (gI M a0 2) ≤ 0 then some 0 else some 1
theorem t_X4_isTold {l : Launch} {M : Mem} {a0 : Nat} {res : Int32} (hf : f_X4_isTold M a0 = some res) : Ci l yX4_isTold cX4_isTold 1 (some .boolean) 0 0 shC nC (fun B => [.ref (B + a0)]) M (M, res) := by
  refine met_i (own := RX4) (lo := fun B => [some (.ref (B + a0))]) (by decide +kernel) rfl shC_ok (fun _ => rfl) (fun _ => rfl) (fun _ => Nat.le_of_ble_eq_true rfl) (fun X hX hn hlx hR => ?_)
  refine r_aload_n (i := 0) hX e_X4_isTold_0 rfl rfl ?_
  obtain ⟨g1, hf⟩ := gd_s hf
  refine r_getI hX hn e_X4_isTold_1 fl_4_39 rfl g1 ?_
  refine r_if_le hX e_X4_isTold_4 (fun hc => ?_) (fun hc => ?_)
  · have hf := ite_t hf hc
    refine r_iconst hX e_X4_isTold_11 ic_0 ?_
    exact r_zret hX hR rfl e_X4_isTold_12 (ro_s hf)
  · have hf := ite_f hf hc
    refine r_iconst hX e_X4_isTold_7 ic_1 ?_
    refine r_goto hX e_X4_isTold_8 ?_
    exact r_zret hX hR rfl e_X4_isTold_12 (ro_s hf)
def f_X4_hasPlace (M : Mem) (a0 : Nat) (a1 : Int32) : Option (Int32) :=
  if a1 < 0 then some 0 else gd (oB shC a0 4) <| if (gI M a0 0) ≤ a1 then some 0 else some 1
theorem t_X4_hasPlace {l : Launch} {M : Mem} {a0 : Nat} {a1 : Int32} {res : Int32} (hf : f_X4_hasPlace M a0 a1 = some res) : Ci l yX4_hasPlace cX4_hasPlace 2 (some .boolean) 0 0 shC nC (fun B => [.ref (B + a0), .int a1]) M (M, res) := by
  refine met_i (own := RX4) (lo := fun B => [some (.ref (B + a0)), some (.int a1)]) (by decide +kernel) rfl shC_ok (fun _ => rfl) (fun _ => rfl) (fun _ => Nat.le_of_ble_eq_true rfl) (fun X hX hn hlx hR => ?_)
  refine r_iload_n (i := 1) hX e_X4_hasPlace_0 rfl rfl ?_
  refine r_if_lt hX e_X4_hasPlace_1 (fun hc => ?_) (fun hc => ?_)
  · have hf := ite_t hf hc
    refine r_iconst hX e_X4_hasPlace_16 ic_0 ?_
    exact r_zret hX hR rfl e_X4_hasPlace_17 (ro_s hf)
  · have hf := ite_f hf hc
    refine r_iload_n (i := 1) hX e_X4_hasPlace_4 rfl rfl ?_
    refine r_aload_n (i := 0) hX e_X4_hasPlace_5 rfl rfl ?_
    obtain ⟨g1, hf⟩ := gd_s hf
    refine r_getI hX hn e_X4_hasPlace_6 fl_4_32 rfl g1 ?_
    refine r_icmp_ge hX e_X4_hasPlace_9 (fun hc => ?_) (fun hc => ?_)
    · have hf := ite_t hf hc
      refine r_iconst hX e_X4_hasPlace_16 ic_0 ?_
      exact r_zret hX hR rfl e_X4_hasPlace_17 (ro_s hf)
    · have hf := ite_f hf hc
      refine r_iconst hX e_X4_hasPlace_12 ic_1 ?_
      refine r_goto hX e_X4_hasPlace_13 ?_
      exact r_zret hX hR rfl e_X4_hasPlace_17 (ro_s hf)
def f_X4_hasMinute (M : Mem) (a0 : Nat) (a1 : Int32) : Option (Int32) :=
  if a1 < 0 then some 0 else gd (oB shC a0 4) <| if (gI M a0 1) ≤ a1 then some 0 else some 1
theorem t_X4_hasMinute {l : Launch} {M : Mem} {a0 : Nat} {a1 : Int32} {res : Int32} (hf : f_X4_hasMinute M a0 a1 = some res) : Ci l yX4_hasMinute cX4_hasMinute 2 (some .boolean) 0 0 shC nC (fun B => [.ref (B + a0), .int a1]) M (M, res) := by
  refine met_i (own := RX4) (lo := fun B => [some (.ref (B + a0)), some (.int a1)]) (by decide +kernel) rfl shC_ok (fun _ => rfl) (fun _ => rfl) (fun _ => Nat.le_of_ble_eq_true rfl) (fun X hX hn hlx hR => ?_)
  refine r_iload_n (i := 1) hX e_X4_hasMinute_0 rfl rfl ?_
  refine r_if_lt hX e_X4_hasMinute_1 (fun hc => ?_) (fun hc => ?_)
  · have hf := ite_t hf hc
    refine r_iconst hX e_X4_hasMinute_16 ic_0 ?_
    exact r_zret hX hR rfl e_X4_hasMinute_17 (ro_s hf)
  · have hf := ite_f hf hc
    refine r_iload_n (i := 1) hX e_X4_hasMinute_4 rfl rfl ?_
    refine r_aload_n (i := 0) hX e_X4_hasMinute_5 rfl rfl ?_
    obtain ⟨g1, hf⟩ := gd_s hf
    refine r_getI hX hn e_X4_hasMinute_6 fl_4_36 rfl g1 ?_
    refine r_icmp_ge hX e_X4_hasMinute_9 (fun hc => ?_) (fun hc => ?_)
    · have hf := ite_t hf hc
      refine r_iconst hX e_X4_hasMinute_16 ic_0 ?_
      exact r_zret hX hR rfl e_X4_hasMinute_17 (ro_s hf)
    · have hf := ite_f hf hc
      refine r_iconst hX e_X4_hasMinute_12 ic_1 ?_
      refine r_goto hX e_X4_hasMinute_13 ?_
      exact r_zret hX hR rfl e_X4_hasMinute_17 (ro_s hf)
def f_X4_hasRing (M : Mem) (a0 : Nat) (a1 : Int32) : Option (Int32) :=
  if a1 < 0 then some 0 else gd (oB shC a0 4) <| if (gI M a0 3) ≤ a1 then some 0 else some 1
theorem t_X4_hasRing {l : Launch} {M : Mem} {a0 : Nat} {a1 : Int32} {res : Int32} (hf : f_X4_hasRing M a0 a1 = some res) : Ci l yX4_hasRing cX4_hasRing 2 (some .boolean) 0 0 shC nC (fun B => [.ref (B + a0), .int a1]) M (M, res) := by
  refine met_i (own := RX4) (lo := fun B => [some (.ref (B + a0)), some (.int a1)]) (by decide +kernel) rfl shC_ok (fun _ => rfl) (fun _ => rfl) (fun _ => Nat.le_of_ble_eq_true rfl) (fun X hX hn hlx hR => ?_)
  refine r_iload_n (i := 1) hX e_X4_hasRing_0 rfl rfl ?_
  refine r_if_lt hX e_X4_hasRing_1 (fun hc => ?_) (fun hc => ?_)
  · have hf := ite_t hf hc
    refine r_iconst hX e_X4_hasRing_16 ic_0 ?_
    exact r_zret hX hR rfl e_X4_hasRing_17 (ro_s hf)
  · have hf := ite_f hf hc
    refine r_iload_n (i := 1) hX e_X4_hasRing_4 rfl rfl ?_
    refine r_aload_n (i := 0) hX e_X4_hasRing_5 rfl rfl ?_
    obtain ⟨g1, hf⟩ := gd_s hf
    refine r_getI hX hn e_X4_hasRing_6 fl_4_42 rfl g1 ?_
    refine r_icmp_ge hX e_X4_hasRing_9 (fun hc => ?_) (fun hc => ?_)
    · have hf := ite_t hf hc
      refine r_iconst hX e_X4_hasRing_16 ic_0 ?_
      exact r_zret hX hR rfl e_X4_hasRing_17 (ro_s hf)
    · have hf := ite_f hf hc
      refine r_iconst hX e_X4_hasRing_12 ic_1 ?_
      refine r_goto hX e_X4_hasRing_13 ?_
      exact r_zret hX hR rfl e_X4_hasRing_17 (ro_s hf)
def f_X4_hasStall (M : Mem) (a0 : Nat) (a1 : Int32) : Option (Int32) :=
  if a1 < 0 then some 0 else gd (oB shC a0 4) <| if (gI M a0 4) ≤ a1 then some 0 else some 1
theorem t_X4_hasStall {l : Launch} {M : Mem} {a0 : Nat} {a1 : Int32} {res : Int32} (hf : f_X4_hasStall M a0 a1 = some res) : Ci l yX4_hasStall cX4_hasStall 2 (some .boolean) 0 0 shC nC (fun B => [.ref (B + a0), .int a1]) M (M, res) := by
  refine met_i (own := RX4) (lo := fun B => [some (.ref (B + a0)), some (.int a1)]) (by decide +kernel) rfl shC_ok (fun _ => rfl) (fun _ => rfl) (fun _ => Nat.le_of_ble_eq_true rfl) (fun X hX hn hlx hR => ?_)
  refine r_iload_n (i := 1) hX e_X4_hasStall_0 rfl rfl ?_
  refine r_if_lt hX e_X4_hasStall_1 (fun hc => ?_) (fun hc => ?_)
  · have hf := ite_t hf hc
    refine r_iconst hX e_X4_hasStall_16 ic_0 ?_
    exact r_zret hX hR rfl e_X4_hasStall_17 (ro_s hf)
  · have hf := ite_f hf hc
    refine r_iload_n (i := 1) hX e_X4_hasStall_4 rfl rfl ?_
    refine r_aload_n (i := 0) hX e_X4_hasStall_5 rfl rfl ?_
    obtain ⟨g1, hf⟩ := gd_s hf
    refine r_getI hX hn e_X4_hasStall_6 fl_4_45 rfl g1 ?_
    refine r_icmp_ge hX e_X4_hasStall_9 (fun hc => ?_) (fun hc => ?_)
    · have hf := ite_t hf hc
      refine r_iconst hX e_X4_hasStall_16 ic_0 ?_
      exact r_zret hX hR rfl e_X4_hasStall_17 (ro_s hf)
    · have hf := ite_f hf hc
      refine r_iconst hX e_X4_hasStall_12 ic_1 ?_
      refine r_goto hX e_X4_hasStall_13 ?_
      exact r_zret hX hR rfl e_X4_hasStall_17 (ro_s hf)
def f_X4_hasBuyer (M : Mem) (a0 : Nat) (a1 : Int32) : Option (Int32) :=
  if a1 < 0 then some 0 else gd (oB shC a0 4) <| if (gI M a0 5) ≤ a1 then some 0 else some 1
theorem t_X4_hasBuyer {l : Launch} {M : Mem} {a0 : Nat} {a1 : Int32} {res : Int32} (hf : f_X4_hasBuyer M a0 a1 = some res) : Ci l yX4_hasBuyer cX4_hasBuyer 2 (some .boolean) 0 0 shC nC (fun B => [.ref (B + a0), .int a1]) M (M, res) := by
  refine met_i (own := RX4) (lo := fun B => [some (.ref (B + a0)), some (.int a1)]) (by decide +kernel) rfl shC_ok (fun _ => rfl) (fun _ => rfl) (fun _ => Nat.le_of_ble_eq_true rfl) (fun X hX hn hlx hR => ?_)
  refine r_iload_n (i := 1) hX e_X4_hasBuyer_0 rfl rfl ?_
  refine r_if_lt hX e_X4_hasBuyer_1 (fun hc => ?_) (fun hc => ?_)
  · have hf := ite_t hf hc
    refine r_iconst hX e_X4_hasBuyer_16 ic_0 ?_
    exact r_zret hX hR rfl e_X4_hasBuyer_17 (ro_s hf)
  · have hf := ite_f hf hc
    refine r_iload_n (i := 1) hX e_X4_hasBuyer_4 rfl rfl ?_
    refine r_aload_n (i := 0) hX e_X4_hasBuyer_5 rfl rfl ?_
    obtain ⟨g1, hf⟩ := gd_s hf
    refine r_getI hX hn e_X4_hasBuyer_6 fl_4_48 rfl g1 ?_
    refine r_icmp_ge hX e_X4_hasBuyer_9 (fun hc => ?_) (fun hc => ?_)
    · have hf := ite_t hf hc
      refine r_iconst hX e_X4_hasBuyer_16 ic_0 ?_
      exact r_zret hX hR rfl e_X4_hasBuyer_17 (ro_s hf)
    · have hf := ite_f hf hc
      refine r_iconst hX e_X4_hasBuyer_12 ic_1 ?_
      refine r_goto hX e_X4_hasBuyer_13 ?_
      exact r_zret hX hR rfl e_X4_hasBuyer_17 (ro_s hf)
def s_X6_add_3 (k3 : Mem → Nat → Int32 → Int32 → Option (Mem)) (M : Mem) (x0 : Nat) (x1 : Int32) (x2 : Int32) : Option (Mem) :=
  if x2 < 0 then some M else gd (oB shC x0 6) <| if 2000 ≤ (gI M x0 1) then some M else bd (gR M x0 0) fun r2 => gd (aB shC r2 3 (gI M x0 1)) <| nx (sI M r2 ((gI M x0 1) : Int32).toNatClampNeg (vp_nar .byte (((x1 >>> (x2 &&& 31)) : Int32).toInt8.toInt32))) fun M4 => nx (sI M4 x0 1 ((gI M4 x0 1) + 1)) fun M5 => k3 M5 (x0) (x1) ((x2 + (-8)))
def f_X6_add_3  : Nat → Mem → Nat → Int32 → Int32 → Option (Mem)
  | 0 => fun _ _ _ _ => none
  | n + 1 => fun y0 y1 y2 y3 => s_X6_add_3  (f_X6_add_3  n) y0 y1 y2 y3
def f_X6_add (M : Mem) (a0 : Nat) (a1 : Int32) : Option (Mem) :=
  f_X6_add_3 FU M (a0) (a1) (24)
theorem t_s_X6_add_3 {X : Cx} {res : Mem} {k3 : Mem → Nat → Int32 → Int32 → Option (Mem)} (hX : OkX X cX6_add RX6 0 0) (hn : Fit X shC nC) (hR : RetV X shC nC res) (hk3 : ∀ M x0 x1 x2, k3 M x0 x1 x2 = some res → GoN X shC nC 0 0 M 3 [some (.ref (X.B + x0)), some (.int (x1)), some (.int (x2))] []) (M : Mem) (x0 : Nat) (x1 : Int32) (x2 : Int32) (hf : s_X6_add_3 k3 M x0 x1 x2 = some res) : GoN X shC nC 0 0 M 3 [some (.ref (X.B + x0)), some (.int (x1)), some (.int (x2))] [] := by
  refine r_iload_n (i := 2) hX e_X6_add_3 rfl rfl ?_
  refine r_if_lt hX e_X6_add_4 (fun hc => ?_) (fun hc => ?_)
  · have hf := ite_t hf hc
    exact r_ret hX hR e_X6_add_46 hf
  · have hf := ite_f hf hc
    refine r_aload_n (i := 0) hX e_X6_add_7 rfl rfl ?_
    obtain ⟨g1, hf⟩ := gd_s hf
    refine r_getI hX hn e_X6_add_8 fl_6_15 rfl g1 ?_
    refine r_sipush hX e_X6_add_11 sc_2000 ?_
    refine r_icmp_ge hX e_X6_add_14 (fun hc => ?_) (fun hc => ?_)
    · have hf := ite_t hf hc
      exact r_ret hX hR e_X6_add_46 hf
    · have hf := ite_f hf hc
      refine r_aload_n (i := 0) hX e_X6_add_17 rfl rfl ?_
      obtain ⟨r2, hr2, hf⟩ := bd_s hf
      refine r_getR hX hn e_X6_add_18 fl_6_9 rfl g1 hr2 ?_
      refine r_aload_n (i := 0) hX e_X6_add_21 rfl rfl ?_
      refine r_getI hX hn e_X6_add_22 fl_6_15 rfl g1 ?_
      refine r_iload_n (i := 1) hX e_X6_add_25 rfl rfl ?_
      refine r_iload_n (i := 2) hX e_X6_add_26 rfl rfl ?_
      refine r_ishr hX e_X6_add_27 ?_
      refine r_i2b hX e_X6_add_28 ?_
      obtain ⟨g3, hf⟩ := gd_s hf
      obtain ⟨M4, hM4, hf⟩ := nx_s hf
      refine r_bast hX hn hM4 e_X6_add_29 g3 ?_
      refine r_aload_n (i := 0) hX e_X6_add_30 rfl rfl ?_
      refine r_dup hX e_X6_add_31 rfl ?_
      refine r_getI hX hn e_X6_add_32 fl_6_15 rfl g1 ?_
      refine r_iconst hX e_X6_add_35 ic_1 ?_
      refine r_iadd hX e_X6_add_36 ?_
      obtain ⟨M5, hM5, hf⟩ := nx_s hf
      refine r_putI hX hn hM5 e_X6_add_37 fl_6_15 fp_6_1 rfl g1 ?_
      refine r_iinc (v := x2 + (-8)) hX e_X6_add_40 rfl (ii_s ic_m8) (Nat.le_of_ble_eq_true rfl) rfl ?_
      refine r_goto hX e_X6_add_43 ?_
      exact GoN.weak (hk3 M5 (x0) (x1) ((x2 + (-8))) hf) rfl (sb_s (sb_s (sb_s (sb_z _))))
theorem t_X6_add_3 {X : Cx} {res : Mem}  (hX : OkX X cX6_add RX6 0 0) (hn : Fit X shC nC) (hR : RetV X shC nC res)  : ∀ (n : Nat) (M : Mem) (x0 : Nat) (x1 : Int32) (x2 : Int32),  f_X6_add_3  n M x0 x1 x2 = some res → GoN X shC nC 0 0 M 3 [some (.ref (X.B + x0)), some (.int (x1)), some (.int (x2))] [] := by
  intro n
  induction n with
  | zero => intro M x0 x1 x2 hf; cases hf
  | succ n ih => intro M x0 x1 x2 hf; exact t_s_X6_add_3 hX hn hR  ih M x0 x1 x2 hf
theorem t_X6_add {l : Launch} {M : Mem} {a0 : Nat} {a1 : Int32} {res : Mem} (hf : f_X6_add M a0 a1 = some res) : Cv l yX6_add cX6_add 3 none 0 0 shC nC (fun B => [.ref (B + a0), .int a1]) M res := by
  refine met_v (own := RX6) (lo := fun B => [some (.ref (B + a0)), some (.int a1), none]) (by decide +kernel) rfl shC_ok (fun _ => rfl) (fun _ => rfl) (fun _ => Nat.le_of_ble_eq_true rfl) (fun X hX hn hlx hR => ?_)
  refine r_bipush hX e_X6_add_0 bc_24 ?_
  refine r_istore_n (i := 2) hX e_X6_add_2 rfl (Nat.le_of_ble_eq_true rfl) rfl ?_
  exact GoN.weak (t_X6_add_3 hX hn hR FU M (a0) (a1) (24) hf) rfl (sb_s (sb_s (sb_s (sb_z _))))
def f_X6_isLetter (M : Mem) (a0 : Int32) : Option (Int32) :=
  if a0 < 97 then some 0 else if 122 < a0 then some 0 else some 1
theorem t_X6_isLetter {l : Launch} {M : Mem} {a0 : Int32} {res : Int32} (hf : f_X6_isLetter M a0 = some res) : Ci l yX6_isLetter cX6_isLetter 1 (some .boolean) 0 0 shC nC (fun B => [.int a0]) M (M, res) := by
  refine met_i (own := RX6) (lo := fun B => [some (.int a0)]) (by decide +kernel) rfl shC_ok (fun _ => rfl) (fun _ => rfl) (fun _ => Nat.le_of_ble_eq_true rfl) (fun X hX hn hlx hR => ?_)
  refine r_iload_n (i := 0) hX e_X6_isLetter_0 rfl rfl ?_
  refine r_bipush hX e_X6_isLetter_1 bc_97 ?_
  refine r_icmp_lt hX e_X6_isLetter_3 (fun hc => ?_) (fun hc => ?_)
  · have hf := ite_t hf hc
    refine r_iconst hX e_X6_isLetter_16 ic_0 ?_
    exact r_zret hX hR rfl e_X6_isLetter_17 (ro_s hf)
  · have hf := ite_f hf hc
    refine r_iload_n (i := 0) hX e_X6_isLetter_6 rfl rfl ?_
    refine r_bipush hX e_X6_isLetter_7 bc_122 ?_
    refine r_icmp_gt hX e_X6_isLetter_9 (fun hc => ?_) (fun hc => ?_)
    · have hf := ite_t hf hc
      refine r_iconst hX e_X6_isLetter_16 ic_0 ?_
      exact r_zret hX hR rfl e_X6_isLetter_17 (ro_s hf)
    · have hf := ite_f hf hc
      refine r_iconst hX e_X6_isLetter_12 ic_1 ?_
      refine r_goto hX e_X6_isLetter_13 ?_
      exact r_zret hX hR rfl e_X6_isLetter_17 (ro_s hf)
def s_X6_takeWord_5 (k5 : Mem → Nat → Option (Mem)) (M : Mem) (x0 : Nat) : Option (Mem) :=
  gd (oB shC x0 6) <| if (gI M x0 1) ≤ (gI M x0 5) then some M else bd (gR M x0 0) fun r2 => gd (aB shC r2 3 (gI M x0 5)) <| bd (f_X6_isLetter M (gI M r2 ((gI M x0 5) : Int32).toNatClampNeg)) fun v4 => if v4 = 0 then some M else nx (sI M x0 5 ((gI M x0 5) + 1)) fun M5 => k5 M5 (x0)
def f_X6_takeWord_5  : Nat → Mem → Nat → Option (Mem)
  | 0 => fun _ _ => none
  | n + 1 => fun y0 y1 => s_X6_takeWord_5  (f_X6_takeWord_5  n) y0 y1
def f_X6_takeWord (M : Mem) (a0 : Nat) : Option (Mem) :=
  gd (oB shC a0 6) <| nx (sI M a0 6 1) fun M2 => f_X6_takeWord_5 FU M2 (a0)
theorem t_s_X6_takeWord_5 {X : Cx} {res : Mem} {k5 : Mem → Nat → Option (Mem)} (hX : OkX X cX6_takeWord RX6 1 20) (hn : Fit X shC nC) (hR : RetV X shC nC res) (hk5 : ∀ M x0, k5 M x0 = some res → GoN X shC nC 0 0 M 5 [some (.ref (X.B + x0))] []) (M : Mem) (x0 : Nat) (hf : s_X6_takeWord_5 k5 M x0 = some res) : GoN X shC nC 0 0 M 5 [some (.ref (X.B + x0))] [] := by
  refine r_aload_n (i := 0) hX e_X6_takeWord_5 rfl rfl ?_
  obtain ⟨g1, hf⟩ := gd_s hf
  refine r_getI hX hn e_X6_takeWord_6 fl_6_25 rfl g1 ?_
  refine r_aload_n (i := 0) hX e_X6_takeWord_9 rfl rfl ?_
  refine r_getI hX hn e_X6_takeWord_10 fl_6_15 rfl g1 ?_
  refine r_icmp_ge hX e_X6_takeWord_13 (fun hc => ?_) (fun hc => ?_)
  · have hf := ite_t hf hc
    exact r_ret hX hR e_X6_takeWord_44 hf
  · have hf := ite_f hf hc
    refine r_aload_n (i := 0) hX e_X6_takeWord_16 rfl rfl ?_
    obtain ⟨r2, hr2, hf⟩ := bd_s hf
    refine r_getR hX hn e_X6_takeWord_17 fl_6_9 rfl g1 hr2 ?_
    refine r_aload_n (i := 0) hX e_X6_takeWord_20 rfl rfl ?_
    refine r_getI hX hn e_X6_takeWord_21 fl_6_25 rfl g1 ?_
    obtain ⟨g3, hf⟩ := gd_s hf
    refine r_bald hX hn e_X6_takeWord_24 g3 ?_
    obtain ⟨v4, hv4, hf⟩ := bd_s hf
    refine r_csi (As := fun B => [.int ((gI M r2 ((gI M x0 5) : Int32).toNatClampNeg))]) hX hn (t_X6_isLetter hv4) e_X6_takeWord_25 cw_X6_isLetter cv_X6_isLetter lk_6_244 ⟨Nat.le_of_ble_eq_true rfl, Nat.le_of_ble_eq_true rfl⟩ rfl rfl (Nat.le_of_ble_eq_true rfl) ⟨Nat.zero_le _, Nat.zero_le _⟩ ?_
    refine r_if_eq hX e_X6_takeWord_28 (fun hc => ?_) (fun hc => ?_)
    · have hf := ite_t hf hc
      exact r_ret hX hR e_X6_takeWord_44 hf
    · have hf := ite_f hf hc
      refine r_aload_n (i := 0) hX e_X6_takeWord_31 rfl rfl ?_
      refine r_dup hX e_X6_takeWord_32 rfl ?_
      refine r_getI hX hn e_X6_takeWord_33 fl_6_25 rfl g1 ?_
      refine r_iconst hX e_X6_takeWord_36 ic_1 ?_
      refine r_iadd hX e_X6_takeWord_37 ?_
      obtain ⟨M5, hM5, hf⟩ := nx_s hf
      refine r_putI hX hn hM5 e_X6_takeWord_38 fl_6_25 fp_6_5 rfl g1 ?_
      refine r_goto hX e_X6_takeWord_41 ?_
      exact GoN.weak (hk5 M5 (x0) hf) rfl (sb_s (sb_z _))
theorem t_X6_takeWord_5 {X : Cx} {res : Mem}  (hX : OkX X cX6_takeWord RX6 1 20) (hn : Fit X shC nC) (hR : RetV X shC nC res)  : ∀ (n : Nat) (M : Mem) (x0 : Nat),  f_X6_takeWord_5  n M x0 = some res → GoN X shC nC 0 0 M 5 [some (.ref (X.B + x0))] [] := by
  intro n
  induction n with
  | zero => intro M x0 hf; cases hf
  | succ n ih => intro M x0 hf; exact t_s_X6_takeWord_5 hX hn hR  ih M x0 hf
theorem t_X6_takeWord {l : Launch} {M : Mem} {a0 : Nat} {res : Mem} (hf : f_X6_takeWord M a0 = some res) : Cv l yX6_takeWord cX6_takeWord 1 none 1 20 shC nC (fun B => [.ref (B + a0)]) M res := by
  refine met_v (own := RX6) (lo := fun B => [some (.ref (B + a0))]) (by decide +kernel) rfl shC_ok (fun _ => rfl) (fun _ => rfl) (fun _ => Nat.le_of_ble_eq_true rfl) (fun X hX hn hlx hR => ?_)
  refine r_aload_n (i := 0) hX e_X6_takeWord_0 rfl rfl ?_
  refine r_iconst hX e_X6_takeWord_1 ic_1 ?_
  obtain ⟨g1, hf⟩ := gd_s hf
  obtain ⟨M2, hM2, hf⟩ := nx_s hf
  refine r_putI hX hn hM2 e_X6_takeWord_2 fl_6_39 fp_6_6 rfl g1 ?_
  exact GoN.weak (t_X6_takeWord_5 hX hn hR FU M2 (a0) hf) rfl (sb_s (sb_z _))
def f_X6_isDigit (M : Mem) (a0 : Int32) : Option (Int32) :=
  if a0 < 48 then some 0 else if 57 < a0 then some 0 else some 1
theorem t_X6_isDigit {l : Launch} {M : Mem} {a0 : Int32} {res : Int32} (hf : f_X6_isDigit M a0 = some res) : Ci l yX6_isDigit cX6_isDigit 1 (some .boolean) 0 0 shC nC (fun B => [.int a0]) M (M, res) := by
  refine met_i (own := RX6) (lo := fun B => [some (.int a0)]) (by decide +kernel) rfl shC_ok (fun _ => rfl) (fun _ => rfl) (fun _ => Nat.le_of_ble_eq_true rfl) (fun X hX hn hlx hR => ?_)
  refine r_iload_n (i := 0) hX e_X6_isDigit_0 rfl rfl ?_
  refine r_bipush hX e_X6_isDigit_1 bc_48 ?_
  refine r_icmp_lt hX e_X6_isDigit_3 (fun hc => ?_) (fun hc => ?_)
  · have hf := ite_t hf hc
    refine r_iconst hX e_X6_isDigit_16 ic_0 ?_
    exact r_zret hX hR rfl e_X6_isDigit_17 (ro_s hf)
  · have hf := ite_f hf hc
    refine r_iload_n (i := 0) hX e_X6_isDigit_6 rfl rfl ?_
    refine r_bipush hX e_X6_isDigit_7 bc_57 ?_
    refine r_icmp_gt hX e_X6_isDigit_9 (fun hc => ?_) (fun hc => ?_)
    · have hf := ite_t hf hc
      refine r_iconst hX e_X6_isDigit_16 ic_0 ?_
      exact r_zret hX hR rfl e_X6_isDigit_17 (ro_s hf)
    · have hf := ite_f hf hc
      refine r_iconst hX e_X6_isDigit_12 ic_1 ?_
      refine r_goto hX e_X6_isDigit_13 ?_
      exact r_zret hX hR rfl e_X6_isDigit_17 (ro_s hf)
def f_X6_refuse (M : Mem) (a0 : Nat) (a1 : Int32) : Option (Mem) :=
  gd (oB shC a0 6) <| if (gI M a0 2) = 0 then nx (sI M a0 2 a1) fun M2 => nx (sI M2 a0 3 (gI M2 a0 4)) fun M3 => some M3 else some M
theorem t_X6_refuse {l : Launch} {M : Mem} {a0 : Nat} {a1 : Int32} {res : Mem} (hf : f_X6_refuse M a0 a1 = some res) : Cv l yX6_refuse cX6_refuse 2 none 0 0 shC nC (fun B => [.ref (B + a0), .int a1]) M res := by
  refine met_v (own := RX6) (lo := fun B => [some (.ref (B + a0)), some (.int a1)]) (by decide +kernel) rfl shC_ok (fun _ => rfl) (fun _ => rfl) (fun _ => Nat.le_of_ble_eq_true rfl) (fun X hX hn hlx hR => ?_)
  refine r_aload_n (i := 0) hX e_X6_refuse_0 rfl rfl ?_
  obtain ⟨g1, hf⟩ := gd_s hf
  refine r_getI hX hn e_X6_refuse_1 fl_6_19 rfl g1 ?_
  refine r_if_ne hX e_X6_refuse_4 (fun hc => ?_) (fun hc => ?_)
  · have hf := ite_f hf hc
    exact r_ret hX hR e_X6_refuse_20 hf
  · have hf := ite_t hf hc
    refine r_aload_n (i := 0) hX e_X6_refuse_7 rfl rfl ?_
    refine r_iload_n (i := 1) hX e_X6_refuse_8 rfl rfl ?_
    obtain ⟨M2, hM2, hf⟩ := nx_s hf
    refine r_putI hX hn hM2 e_X6_refuse_9 fl_6_19 fp_6_2 rfl g1 ?_
    refine r_aload_n (i := 0) hX e_X6_refuse_12 rfl rfl ?_
    refine r_aload_n (i := 0) hX e_X6_refuse_13 rfl rfl ?_
    refine r_getI hX hn e_X6_refuse_14 fl_6_230 rfl g1 ?_
    obtain ⟨M3, hM3, hf⟩ := nx_s hf
    refine r_putI hX hn hM3 e_X6_refuse_17 fl_6_22 fp_6_3 rfl g1 ?_
    exact r_ret hX hR e_X6_refuse_20 hf
def f_X6_numberHere (M : Mem) (a0 : Nat) (a1 : Int32) (a2 : Int32) : Option (Mem × Int32) :=
  gd (oB shC a0 6) <| if (gI M a0 6) = 2 then if (gI M a0 7) < a1 then bd (f_X6_refuse M a0 2) fun u2 => some (u2, a1) else if (gI M a0 7) ≤ a2 then some (M, (gI M a0 7)) else bd (f_X6_refuse M a0 2) fun u3 => some (u3, a1) else bd (f_X6_refuse M a0 1) fun u4 => some (u4, a1)
theorem t_X6_numberHere {l : Launch} {M : Mem} {a0 : Nat} {a1 a2 : Int32} {res : Mem × Int32} (hf : f_X6_numberHere M a0 a1 a2 = some res) : Ci l yX6_numberHere cX6_numberHere 3 (some .int) 1 21 shC nC (fun B => [.ref (B + a0), .int a1, .int a2]) M res := by
  refine met_i (own := RX6) (lo := fun B => [some (.ref (B + a0)), some (.int a1), some (.int a2)]) (by decide +kernel) rfl shC_ok (fun _ => rfl) (fun _ => rfl) (fun _ => Nat.le_of_ble_eq_true rfl) (fun X hX hn hlx hR => ?_)
  refine r_aload_n (i := 0) hX e_X6_numberHere_0 rfl rfl ?_
  obtain ⟨g1, hf⟩ := gd_s hf
  refine r_getI hX hn e_X6_numberHere_1 fl_6_39 rfl g1 ?_
  refine r_iconst hX e_X6_numberHere_4 ic_2 ?_
  refine r_icmp_eq hX e_X6_numberHere_5 (fun hc => ?_) (fun hc => ?_)
  · have hf := ite_t hf hc
    refine r_aload_n (i := 0) hX e_X6_numberHere_15 rfl rfl ?_
    refine r_getI hX hn e_X6_numberHere_16 fl_6_232 rfl g1 ?_
    refine r_iload_n (i := 1) hX e_X6_numberHere_19 rfl rfl ?_
    refine r_icmp_lt hX e_X6_numberHere_20 (fun hc => ?_) (fun hc => ?_)
    · have hf := ite_t hf hc
      refine r_aload_n (i := 0) hX e_X6_numberHere_31 rfl rfl ?_
      refine r_iconst hX e_X6_numberHere_32 ic_2 ?_
      obtain ⟨u2, hu2, hf⟩ := bd_s hf
      refine r_cvv (As := fun B => [.int (2)]) hX hn (t_X6_refuse hu2) e_X6_numberHere_33 cw_X6_refuse cv_X6_refuse lk_6_81 ⟨Nat.le_of_ble_eq_true rfl, Nat.le_of_ble_eq_true rfl⟩ (ci := 6) rfl rfl (Nat.le_of_ble_eq_true rfl) g1 rfl rfl (Nat.le_of_ble_eq_true rfl) ⟨Nat.zero_le _, Nat.zero_le _⟩ ?_
      refine r_iload_n (i := 1) hX e_X6_numberHere_36 rfl rfl ?_
      exact r_iret hX hR e_X6_numberHere_37 hf
    · have hf := ite_f hf hc
      refine r_aload_n (i := 0) hX e_X6_numberHere_23 rfl rfl ?_
      refine r_getI hX hn e_X6_numberHere_24 fl_6_232 rfl g1 ?_
      refine r_iload_n (i := 2) hX e_X6_numberHere_27 rfl rfl ?_
      refine r_icmp_le hX e_X6_numberHere_28 (fun hc => ?_) (fun hc => ?_)
      · have hf := ite_t hf hc
        refine r_aload_n (i := 0) hX e_X6_numberHere_38 rfl rfl ?_
        refine r_getI hX hn e_X6_numberHere_39 fl_6_232 rfl g1 ?_
        exact r_iret hX hR e_X6_numberHere_42 hf
      · have hf := ite_f hf hc
        refine r_aload_n (i := 0) hX e_X6_numberHere_31 rfl rfl ?_
        refine r_iconst hX e_X6_numberHere_32 ic_2 ?_
        obtain ⟨u3, hu3, hf⟩ := bd_s hf
        refine r_cvv (As := fun B => [.int (2)]) hX hn (t_X6_refuse hu3) e_X6_numberHere_33 cw_X6_refuse cv_X6_refuse lk_6_81 ⟨Nat.le_of_ble_eq_true rfl, Nat.le_of_ble_eq_true rfl⟩ (ci := 6) rfl rfl (Nat.le_of_ble_eq_true rfl) g1 rfl rfl (Nat.le_of_ble_eq_true rfl) ⟨Nat.zero_le _, Nat.zero_le _⟩ ?_
        refine r_iload_n (i := 1) hX e_X6_numberHere_36 rfl rfl ?_
        exact r_iret hX hR e_X6_numberHere_37 hf
  · have hf := ite_f hf hc
    refine r_aload_n (i := 0) hX e_X6_numberHere_8 rfl rfl ?_
    refine r_iconst hX e_X6_numberHere_9 ic_1 ?_
    obtain ⟨u4, hu4, hf⟩ := bd_s hf
    refine r_cvv (As := fun B => [.int (1)]) hX hn (t_X6_refuse hu4) e_X6_numberHere_10 cw_X6_refuse cv_X6_refuse lk_6_81 ⟨Nat.le_of_ble_eq_true rfl, Nat.le_of_ble_eq_true rfl⟩ (ci := 6) rfl rfl (Nat.le_of_ble_eq_true rfl) g1 rfl rfl (Nat.le_of_ble_eq_true rfl) ⟨Nat.zero_le _, Nat.zero_le _⟩ ?_
    refine r_iload_n (i := 1) hX e_X6_numberHere_13 rfl rfl ?_
    exact r_iret hX hR e_X6_numberHere_14 hf
def f_X6_isFull_10  (M : Mem) (x1 : Int32) (x2 : Int32) : Option (Mem × Int32) :=
  if x1 < x2 then some (M, 0) else some (M, 1)
def f_X6_isFull (M : Mem) (a0 : Nat) (a1 : Int32) (a2 : Int32) : Option (Mem × Int32) :=
  if a1 < a2 then f_X6_isFull_10 M (a1) (a2) else gd (oB shC a0 6) <| bd (f_X6_refuse M a0 3) fun u2 => f_X6_isFull_10 u2 (a1) (a2)
theorem t_X6_isFull_10 {X : Cx} {res : Mem × Int32}  (hX : OkX X cX6_isFull RX6 1 21) (hn : Fit X shC nC) (hR : RetI X shC nC .boolean res)  (M : Mem) (x1 : Int32) (x2 : Int32) (hf : f_X6_isFull_10  M x1 x2 = some res) : GoN X shC nC 0 0 M 10 [none, some (.int (x1)), some (.int (x2))] [] := by
  refine r_iload_n (i := 1) hX e_X6_isFull_10 rfl rfl ?_
  refine r_iload_n (i := 2) hX e_X6_isFull_11 rfl rfl ?_
  refine r_icmp_lt hX e_X6_isFull_12 (fun hc => ?_) (fun hc => ?_)
  · have hf := ite_t hf hc
    refine r_iconst hX e_X6_isFull_19 ic_0 ?_
    exact r_zret hX hR rfl e_X6_isFull_20 hf
  · have hf := ite_f hf hc
    refine r_iconst hX e_X6_isFull_15 ic_1 ?_
    refine r_goto hX e_X6_isFull_16 ?_
    exact r_zret hX hR rfl e_X6_isFull_20 hf
theorem t_X6_isFull {l : Launch} {M : Mem} {a0 : Nat} {a1 a2 : Int32} {res : Mem × Int32} (hf : f_X6_isFull M a0 a1 a2 = some res) : Ci l yX6_isFull cX6_isFull 3 (some .boolean) 1 21 shC nC (fun B => [.ref (B + a0), .int a1, .int a2]) M res := by
  refine met_i (own := RX6) (lo := fun B => [some (.ref (B + a0)), some (.int a1), some (.int a2)]) (by decide +kernel) rfl shC_ok (fun _ => rfl) (fun _ => rfl) (fun _ => Nat.le_of_ble_eq_true rfl) (fun X hX hn hlx hR => ?_)
  refine r_iload_n (i := 1) hX e_X6_isFull_0 rfl rfl ?_
  refine r_iload_n (i := 2) hX e_X6_isFull_1 rfl rfl ?_
  refine r_icmp_lt hX e_X6_isFull_2 (fun hc => ?_) (fun hc => ?_)
  · have hf := ite_t hf hc
    exact GoN.weak (t_X6_isFull_10 hX hn hR M (a1) (a2) hf) rfl (sb_n (sb_s (sb_s (sb_z _))))
  · have hf := ite_f hf hc
    refine r_aload_n (i := 0) hX e_X6_isFull_5 rfl rfl ?_
    refine r_iconst hX e_X6_isFull_6 ic_3 ?_
    obtain ⟨g1, hf⟩ := gd_s hf
    obtain ⟨u2, hu2, hf⟩ := bd_s hf
    refine r_cvv (As := fun B => [.int (3)]) hX hn (t_X6_refuse hu2) e_X6_isFull_7 cw_X6_refuse cv_X6_refuse lk_6_81 ⟨Nat.le_of_ble_eq_true rfl, Nat.le_of_ble_eq_true rfl⟩ (ci := 6) rfl rfl (Nat.le_of_ble_eq_true rfl) g1 rfl rfl (Nat.le_of_ble_eq_true rfl) ⟨Nat.zero_le _, Nat.zero_le _⟩ ?_
    exact GoN.weak (t_X6_isFull_10 hX hn hR u2 (a1) (a2) hf) rfl (sb_n (sb_s (sb_s (sb_z _))))
def f_X8_cut (M : Mem) (a0 : Nat) (a1 : Int64) : Option (Int64) :=
  gd (oB shC a0 8) <| if (gI M a0 1) = 0 then nx ((((a1 : Int64).toInt32 : Int32).toInt8.toInt32 : Int32).toInt64) fun v2 => some v2 else if (gI M a0 1) = 1 then nx ((((a1 : Int64).toInt32 : Int32).toInt16.toInt32 : Int32).toInt64) fun v3 => some v3 else if (gI M a0 1) = 2 then some (((a1 : Int64).toInt32 : Int32).toInt64) else some a1
theorem t_X8_cut {l : Launch} {M : Mem} {a0 : Nat} {a1 : Int64} {res : Int64} (hf : f_X8_cut M a0 a1 = some res) : Cl l yX8_cut cX8_cut 3 (some .long) 0 0 shC nC (fun B => [.ref (B + a0), .long a1]) M (M, res) := by
  refine met_l (own := RX8) (lo := fun B => [some (.ref (B + a0)), some (.long a1), none]) (by decide +kernel) rfl shC_ok (fun _ => rfl) (fun _ => rfl) (fun _ => Nat.le_of_ble_eq_true rfl) (fun X hX hn hlx hR => ?_)
  refine r_aload_n (i := 0) hX e_X8_cut_0 rfl rfl ?_
  obtain ⟨g1, hf⟩ := gd_s hf
  refine r_getI hX hn e_X8_cut_1 fl_8_19 rfl g1 ?_
  by_cases hs0 : (gI M a0 1) = 0
  · have hf := ite_t hf hs0
    refine r_tabIn (tgt := 32) hX e_X8_cut_4 (by rw [hs0]; decide) (by rw [hs0]; decide) (off := 28) (by rw [hs0]; decide) (by decide) ?_
    refine r_lload_n (i := 1) hX e_X8_cut_32 rfl rfl ?_
    refine r_l2i hX e_X8_cut_33 ?_
    refine r_i2b hX e_X8_cut_34 ?_
    refine r_i2l hX e_X8_cut_35 ?_
    obtain ⟨v2, hv2, hf⟩ := nx_s hf
    refine top_l hv2 ?_
    exact r_lret hX hR e_X8_cut_36 (ro_s hf)
  have hf := ite_f hf hs0
  by_cases hs1 : (gI M a0 1) = 1
  · have hf := ite_t hf hs1
    refine r_tabIn (tgt := 37) hX e_X8_cut_4 (by rw [hs1]; decide) (by rw [hs1]; decide) (off := 33) (by rw [hs1]; decide) (by decide) ?_
    refine r_lload_n (i := 1) hX e_X8_cut_37 rfl rfl ?_
    refine r_l2i hX e_X8_cut_38 ?_
    refine r_i2s hX e_X8_cut_39 ?_
    refine r_i2l hX e_X8_cut_40 ?_
    obtain ⟨v3, hv3, hf⟩ := nx_s hf
    refine top_l hv3 ?_
    exact r_lret hX hR e_X8_cut_41 (ro_s hf)
  have hf := ite_f hf hs1
  by_cases hs2 : (gI M a0 1) = 2
  · have hf := ite_t hf hs2
    refine r_tabIn (tgt := 42) hX e_X8_cut_4 (by rw [hs2]; decide) (by rw [hs2]; decide) (off := 38) (by rw [hs2]; decide) (by decide) ?_
    refine r_lload_n (i := 1) hX e_X8_cut_42 rfl rfl ?_
    refine r_l2i hX e_X8_cut_43 ?_
    refine r_i2l hX e_X8_cut_44 ?_
    exact r_lret hX hR e_X8_cut_45 (ro_s hf)
  have hf := ite_f hf hs2
  refine r_tabOut (tgt := 46) hX e_X8_cut_4 ?_ (by decide) ?_
  · have z0 : (gI M a0 1).toInt ≠ 0 := i32_ne hs0 (by decide); have z1 : (gI M a0 1).toInt ≠ 1 := i32_ne hs1 (by decide); have z2 : (gI M a0 1).toInt ≠ 2 := i32_ne hs2 (by decide); omega
  refine r_lload_n (i := 1) hX e_X8_cut_46 rfl rfl ?_
  exact r_lret hX hR e_X8_cut_47 (ro_s hf)
def f_X8_holds (M : Mem) (a0 : Nat) (a1 : Int32) (a2 : Int32) : Option (Int32) :=
  if a1 < 0 then some 0 else if a2 < 0 then some 0 else gd (oB shC a0 8) <| if (gI M a0 2) < a1 then some 0 else if ((gI M a0 2) - a1) < a2 then some 0 else some 1
theorem t_X8_holds {l : Launch} {M : Mem} {a0 : Nat} {a1 a2 : Int32} {res : Int32} (hf : f_X8_holds M a0 a1 a2 = some res) : Ci l yX8_holds cX8_holds 3 (some .boolean) 0 0 shC nC (fun B => [.ref (B + a0), .int a1, .int a2]) M (M, res) := by
  refine met_i (own := RX8) (lo := fun B => [some (.ref (B + a0)), some (.int a1), some (.int a2)]) (by decide +kernel) rfl shC_ok (fun _ => rfl) (fun _ => rfl) (fun _ => Nat.le_of_ble_eq_true rfl) (fun X hX hn hlx hR => ?_)
  refine r_iload_n (i := 1) hX e_X8_holds_0 rfl rfl ?_
  refine r_if_lt hX e_X8_holds_1 (fun hc => ?_) (fun hc => ?_)
  · have hf := ite_t hf hc
    refine r_iconst hX e_X8_holds_30 ic_0 ?_
    exact r_zret hX hR rfl e_X8_holds_31 (ro_s hf)
  · have hf := ite_f hf hc
    refine r_iload_n (i := 2) hX e_X8_holds_4 rfl rfl ?_
    refine r_if_lt hX e_X8_holds_5 (fun hc => ?_) (fun hc => ?_)
    · have hf := ite_t hf hc
      refine r_iconst hX e_X8_holds_30 ic_0 ?_
      exact r_zret hX hR rfl e_X8_holds_31 (ro_s hf)
    · have hf := ite_f hf hc
      refine r_iload_n (i := 1) hX e_X8_holds_8 rfl rfl ?_
      refine r_aload_n (i := 0) hX e_X8_holds_9 rfl rfl ?_
      obtain ⟨g1, hf⟩ := gd_s hf
      refine r_getI hX hn e_X8_holds_10 fl_8_23 rfl g1 ?_
      refine r_icmp_gt hX e_X8_holds_13 (fun hc => ?_) (fun hc => ?_)
      · have hf := ite_t hf hc
        refine r_iconst hX e_X8_holds_30 ic_0 ?_
        exact r_zret hX hR rfl e_X8_holds_31 (ro_s hf)
      · have hf := ite_f hf hc
        refine r_iload_n (i := 2) hX e_X8_holds_16 rfl rfl ?_
        refine r_aload_n (i := 0) hX e_X8_holds_17 rfl rfl ?_
        refine r_getI hX hn e_X8_holds_18 fl_8_23 rfl g1 ?_
        refine r_iload_n (i := 1) hX e_X8_holds_21 rfl rfl ?_
        refine r_isub hX e_X8_holds_22 ?_
        refine r_icmp_gt hX e_X8_holds_23 (fun hc => ?_) (fun hc => ?_)
        · have hf := ite_t hf hc
          refine r_iconst hX e_X8_holds_30 ic_0 ?_
          exact r_zret hX hR rfl e_X8_holds_31 (ro_s hf)
        · have hf := ite_f hf hc
          refine r_iconst hX e_X8_holds_26 ic_1 ?_
          refine r_goto hX e_X8_holds_27 ?_
          exact r_zret hX hR rfl e_X8_holds_31 (ro_s hf)
