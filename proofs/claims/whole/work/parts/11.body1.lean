def s_X3_firstMinuteAt_2 (M : Mem) (k2 : Nat → Int32 → Int32 → Option (Int32)) (x0 : Nat) (x1 : Int32) (x2 : Int32) : Option (Int32) :=
  gd (oB shC x0 3) <| if (gI M x0 4) ≤ x2 then some (-1) else bd (gR M x0 6) fun r2 => gd (aB shC r2 0 x2) <| if (gI M r2 (x2 : Int32).toNatClampNeg) = x1 then bd (gR M x0 5) fun r4 => gd (aB shC r4 0 x2) <| some (gI M r4 (x2 : Int32).toNatClampNeg) else k2 (x0) (x1) ((x2 + 1))
def f_X3_firstMinuteAt_2 (M : Mem)  : Nat → Nat → Int32 → Int32 → Option (Int32)
  | 0 => fun _ _ _ => none
  | n + 1 => fun y0 y1 y2 => s_X3_firstMinuteAt_2 M  (f_X3_firstMinuteAt_2 M  n) y0 y1 y2
def f_X3_firstMinuteAt (M : Mem) (a0 : Nat) (a1 : Int32) : Option (Int32) :=
  f_X3_firstMinuteAt_2 M FU (a0) (a1) (0)
theorem t_s_X3_firstMinuteAt_2 {X : Cx} {M : Mem} {res : Int32} {k2 : Nat → Int32 → Int32 → Option (Int32)} (hX : OkX X cX3_firstMinuteAt RX3 0 0) (hn : Fit X shC nC) (hR : RetI X shC nC .int (M, res)) (hk2 : ∀ x0 x1 x2, k2 x0 x1 x2 = some res → GoN X shC nC 0 0 M 2 [some (.ref (X.B + x0)), some (.int (x1)), some (.int (x2))] []) (x0 : Nat) (x1 : Int32) (x2 : Int32) (hf : s_X3_firstMinuteAt_2 M k2 x0 x1 x2 = some res) : GoN X shC nC 0 0 M 2 [some (.ref (X.B + x0)), some (.int (x1)), some (.int (x2))] [] := by
  refine r_iload_n (i := 2) hX e_X3_firstMinuteAt_2 rfl rfl ?_
  refine r_aload_n (i := 0) hX e_X3_firstMinuteAt_3 rfl rfl ?_
  obtain ⟨g1, hf⟩ := gd_s hf
  refine r_getI hX hn e_X3_firstMinuteAt_4 fl_3_98 rfl g1 ?_
  refine r_icmp_ge hX e_X3_firstMinuteAt_7 (fun hc => ?_) (fun hc => ?_)
  · have hf := ite_t hf hc
    refine r_iconst hX e_X3_firstMinuteAt_33 ic_m1 ?_
    exact r_iret hX hR e_X3_firstMinuteAt_34 (ro_s hf)
  · have hf := ite_f hf hc
    refine r_aload_n (i := 0) hX e_X3_firstMinuteAt_10 rfl rfl ?_
    obtain ⟨r2, hr2, hf⟩ := bd_s hf
    refine r_getR hX hn e_X3_firstMinuteAt_11 fl_3_33 rfl g1 hr2 ?_
    refine r_iload_n (i := 2) hX e_X3_firstMinuteAt_14 rfl rfl ?_
    obtain ⟨g3, hf⟩ := gd_s hf
    refine r_iald hX hn e_X3_firstMinuteAt_15 g3 ?_
    refine r_iload_n (i := 1) hX e_X3_firstMinuteAt_16 rfl rfl ?_
    refine r_icmp_ne hX e_X3_firstMinuteAt_17 (fun hc => ?_) (fun hc => ?_)
    · have hf := ite_f hf hc
      refine r_iinc (v := x2 + 1) hX e_X3_firstMinuteAt_27 rfl (ii_s ic_1) (Nat.le_of_ble_eq_true rfl) rfl ?_
      refine r_goto hX e_X3_firstMinuteAt_30 ?_
      exact GoN.weak (hk2 (x0) (x1) ((x2 + 1)) hf) rfl (sb_s (sb_s (sb_s (sb_z _))))
    · have hf := ite_t hf hc
      refine r_aload_n (i := 0) hX e_X3_firstMinuteAt_20 rfl rfl ?_
      obtain ⟨r4, hr4, hf⟩ := bd_s hf
      refine r_getR hX hn e_X3_firstMinuteAt_21 fl_3_29 rfl g1 hr4 ?_
      refine r_iload_n (i := 2) hX e_X3_firstMinuteAt_24 rfl rfl ?_
      obtain ⟨g5, hf⟩ := gd_s hf
      refine r_iald hX hn e_X3_firstMinuteAt_25 g5 ?_
      exact r_iret hX hR e_X3_firstMinuteAt_26 (ro_s hf)
theorem t_X3_firstMinuteAt_2 {X : Cx} {M : Mem} {res : Int32}  (hX : OkX X cX3_firstMinuteAt RX3 0 0) (hn : Fit X shC nC) (hR : RetI X shC nC .int (M, res))  : ∀ (n : Nat) (x0 : Nat) (x1 : Int32) (x2 : Int32),  f_X3_firstMinuteAt_2 M  n x0 x1 x2 = some res → GoN X shC nC 0 0 M 2 [some (.ref (X.B + x0)), some (.int (x1)), some (.int (x2))] [] := by
  intro n
  induction n with
  | zero => intro x0 x1 x2 hf; cases hf
  | succ n ih => intro x0 x1 x2 hf; exact t_s_X3_firstMinuteAt_2 hX hn hR  ih x0 x1 x2 hf
theorem t_X3_firstMinuteAt {l : Launch} {M : Mem} {a0 : Nat} {a1 : Int32} {res : Int32} (hf : f_X3_firstMinuteAt M a0 a1 = some res) : Ci l yX3_firstMinuteAt cX3_firstMinuteAt 3 (some .int) 0 0 shC nC (fun K B => [.ref (B + a0), .int a1]) M (M, res) := by
  refine met_i (own := RX3) (lo := fun K B => [some (.ref (B + a0)), some (.int a1), none]) (by decide +kernel) rfl shC_ok (fun _ _ => rfl) (fun _ _ => rfl) (fun _ _ => Nat.le_of_ble_eq_true rfl) (fun X hX hn hlx hR => ?_)
  refine r_iconst hX e_X3_firstMinuteAt_0 ic_0 ?_
  refine r_istore_n (i := 2) hX e_X3_firstMinuteAt_1 rfl (Nat.le_of_ble_eq_true rfl) rfl ?_
  exact GoN.weak (t_X3_firstMinuteAt_2 hX hn hR FU (a0) (a1) (0) hf) rfl (sb_s (sb_s (sb_s (sb_z _))))
def s_X3_salesTo_4 (M : Mem) (k4 : Nat → Int32 → Int32 → Int32 → Option (Int32)) (x0 : Nat) (x1 : Int32) (x2 : Int32) (x3 : Int32) : Option (Int32) :=
  gd (oB shC x0 3) <| if (gI M x0 4) ≤ x3 then some x2 else bd (gR M x0 7) fun r2 => gd (aB shC r2 0 x3) <| if (gI M r2 (x3 : Int32).toNatClampNeg) = x1 then k4 (x0) (x1) ((x2 + 1)) ((x3 + 1)) else k4 (x0) (x1) (x2) ((x3 + 1))
def f_X3_salesTo_4 (M : Mem)  : Nat → Nat → Int32 → Int32 → Int32 → Option (Int32)
  | 0 => fun _ _ _ _ => none
  | n + 1 => fun y0 y1 y2 y3 => s_X3_salesTo_4 M  (f_X3_salesTo_4 M  n) y0 y1 y2 y3
def f_X3_salesTo (M : Mem) (a0 : Nat) (a1 : Int32) : Option (Int32) :=
  f_X3_salesTo_4 M FU (a0) (a1) (0) (0)
theorem t_s_X3_salesTo_4 {X : Cx} {M : Mem} {res : Int32} {k4 : Nat → Int32 → Int32 → Int32 → Option (Int32)} (hX : OkX X cX3_salesTo RX3 0 0) (hn : Fit X shC nC) (hR : RetI X shC nC .int (M, res)) (hk4 : ∀ x0 x1 x2 x3, k4 x0 x1 x2 x3 = some res → GoN X shC nC 0 0 M 4 [some (.ref (X.B + x0)), some (.int (x1)), some (.int (x2)), some (.int (x3))] []) (x0 : Nat) (x1 : Int32) (x2 : Int32) (x3 : Int32) (hf : s_X3_salesTo_4 M k4 x0 x1 x2 x3 = some res) : GoN X shC nC 0 0 M 4 [some (.ref (X.B + x0)), some (.int (x1)), some (.int (x2)), some (.int (x3))] [] := by
  refine r_iload_n (i := 3) hX e_X3_salesTo_4 rfl rfl ?_
  refine r_aload_n (i := 0) hX e_X3_salesTo_5 rfl rfl ?_
  obtain ⟨g1, hf⟩ := gd_s hf
  refine r_getI hX hn e_X3_salesTo_6 fl_3_98 rfl g1 ?_
  refine r_icmp_ge hX e_X3_salesTo_9 (fun hc => ?_) (fun hc => ?_)
  · have hf := ite_t hf hc
    refine r_iload_n (i := 2) hX e_X3_salesTo_31 rfl rfl ?_
    exact r_iret hX hR e_X3_salesTo_32 (ro_s hf)
  · have hf := ite_f hf hc
    refine r_aload_n (i := 0) hX e_X3_salesTo_12 rfl rfl ?_
    obtain ⟨r2, hr2, hf⟩ := bd_s hf
    refine r_getR hX hn e_X3_salesTo_13 fl_3_36 rfl g1 hr2 ?_
    refine r_iload_n (i := 3) hX e_X3_salesTo_16 rfl rfl ?_
    obtain ⟨g3, hf⟩ := gd_s hf
    refine r_iald hX hn e_X3_salesTo_17 g3 ?_
    refine r_iload_n (i := 1) hX e_X3_salesTo_18 rfl rfl ?_
    refine r_icmp_ne hX e_X3_salesTo_19 (fun hc => ?_) (fun hc => ?_)
    · have hf := ite_f hf hc
      refine r_iinc (v := x3 + 1) hX e_X3_salesTo_25 rfl (ii_s ic_1) (Nat.le_of_ble_eq_true rfl) rfl ?_
      refine r_goto hX e_X3_salesTo_28 ?_
      exact GoN.weak (hk4 (x0) (x1) (x2) ((x3 + 1)) hf) rfl (sb_s (sb_s (sb_s (sb_s (sb_z _)))))
    · have hf := ite_t hf hc
      refine r_iinc (v := x2 + 1) hX e_X3_salesTo_22 rfl (ii_s ic_1) (Nat.le_of_ble_eq_true rfl) rfl ?_
      refine r_iinc (v := x3 + 1) hX e_X3_salesTo_25 rfl (ii_s ic_1) (Nat.le_of_ble_eq_true rfl) rfl ?_
      refine r_goto hX e_X3_salesTo_28 ?_
      exact GoN.weak (hk4 (x0) (x1) ((x2 + 1)) ((x3 + 1)) hf) rfl (sb_s (sb_s (sb_s (sb_s (sb_z _)))))
theorem t_X3_salesTo_4 {X : Cx} {M : Mem} {res : Int32}  (hX : OkX X cX3_salesTo RX3 0 0) (hn : Fit X shC nC) (hR : RetI X shC nC .int (M, res))  : ∀ (n : Nat) (x0 : Nat) (x1 : Int32) (x2 : Int32) (x3 : Int32),  f_X3_salesTo_4 M  n x0 x1 x2 x3 = some res → GoN X shC nC 0 0 M 4 [some (.ref (X.B + x0)), some (.int (x1)), some (.int (x2)), some (.int (x3))] [] := by
  intro n
  induction n with
  | zero => intro x0 x1 x2 x3 hf; cases hf
  | succ n ih => intro x0 x1 x2 x3 hf; exact t_s_X3_salesTo_4 hX hn hR  ih x0 x1 x2 x3 hf
theorem t_X3_salesTo {l : Launch} {M : Mem} {a0 : Nat} {a1 : Int32} {res : Int32} (hf : f_X3_salesTo M a0 a1 = some res) : Ci l yX3_salesTo cX3_salesTo 4 (some .int) 0 0 shC nC (fun K B => [.ref (B + a0), .int a1]) M (M, res) := by
  refine met_i (own := RX3) (lo := fun K B => [some (.ref (B + a0)), some (.int a1), none, none]) (by decide +kernel) rfl shC_ok (fun _ _ => rfl) (fun _ _ => rfl) (fun _ _ => Nat.le_of_ble_eq_true rfl) (fun X hX hn hlx hR => ?_)
  refine r_iconst hX e_X3_salesTo_0 ic_0 ?_
  refine r_istore_n (i := 2) hX e_X3_salesTo_1 rfl (Nat.le_of_ble_eq_true rfl) rfl ?_
  refine r_iconst hX e_X3_salesTo_2 ic_0 ?_
  refine r_istore_n (i := 3) hX e_X3_salesTo_3 rfl (Nat.le_of_ble_eq_true rfl) rfl ?_
  exact GoN.weak (t_X3_salesTo_4 hX hn hR FU (a0) (a1) (0) (0) hf) rfl (sb_s (sb_s (sb_s (sb_s (sb_z _)))))
def f_X3_spentBy (M : Mem) (a0 : Nat) (a1 : Int32) : Option (Int32) :=
  gd (oB shC a0 3) <| bd (gR M a0 10) fun r2 => gd (oB shC r2 4) <| bd (gR M r2 8) fun r4 => gd (aB shC r4 6 a1) <| bd (gR M r4 (a1 : Int32).toNatClampNeg) fun r6 => gd (oB shC r6 1) <| bd (gR M a0 15) fun r8 => gd (aB shC r8 0 a1) <| nx (((gI M r6 1) - (gI M r8 (a1 : Int32).toNatClampNeg))) fun v10 => some v10
theorem t_X3_spentBy {l : Launch} {M : Mem} {a0 : Nat} {a1 : Int32} {res : Int32} (hf : f_X3_spentBy M a0 a1 = some res) : Ci l yX3_spentBy cX3_spentBy 2 (some .int) 0 0 shC nC (fun K B => [.ref (B + a0), .int a1]) M (M, res) := by
  refine met_i (own := RX3) (lo := fun K B => [some (.ref (B + a0)), some (.int a1)]) (by decide +kernel) rfl shC_ok (fun _ _ => rfl) (fun _ _ => rfl) (fun _ _ => Nat.le_of_ble_eq_true rfl) (fun X hX hn hlx hR => ?_)
  refine r_aload_n (i := 0) hX e_X3_spentBy_0 rfl rfl ?_
  obtain ⟨g1, hf⟩ := gd_s hf
  obtain ⟨r2, hr2, hf⟩ := bd_s hf
  refine r_getR hX hn e_X3_spentBy_1 fl_3_67 rfl g1 hr2 ?_
  obtain ⟨g3, hf⟩ := gd_s hf
  obtain ⟨r4, hr4, hf⟩ := bd_s hf
  refine r_getR hX hn e_X3_spentBy_4 fl_3_118 rfl g3 hr4 ?_
  refine r_iload_n (i := 1) hX e_X3_spentBy_7 rfl rfl ?_
  obtain ⟨g5, hf⟩ := gd_s hf
  obtain ⟨r6, hr6, hf⟩ := bd_s hf
  refine r_aald hX hn e_X3_spentBy_8 g5 (Nat.le_of_ble_eq_true rfl) rfl rfl rfl hr6 ?_
  obtain ⟨g7, hf⟩ := gd_s hf
  refine r_getI hX hn e_X3_spentBy_9 fl_3_122 rfl g7 ?_
  refine r_aload_n (i := 0) hX e_X3_spentBy_12 rfl rfl ?_
  obtain ⟨r8, hr8, hf⟩ := bd_s hf
  refine r_getR hX hn e_X3_spentBy_13 fl_3_58 rfl g1 hr8 ?_
  refine r_iload_n (i := 1) hX e_X3_spentBy_16 rfl rfl ?_
  obtain ⟨g9, hf⟩ := gd_s hf
  refine r_iald hX hn e_X3_spentBy_17 g9 ?_
  refine r_isub hX e_X3_spentBy_18 ?_
  obtain ⟨v10, hv10, hf⟩ := nx_s hf
  refine top_i hv10 ?_
  exact r_iret hX hR e_X3_spentBy_19 (ro_s hf)
def s_X3_paidInAll_4 (M : Mem) (k4 : Nat → Int32 → Int32 → Option (Int32)) (x0 : Nat) (x1 : Int32) (x2 : Int32) : Option (Int32) :=
  gd (oB shC x0 3) <| if (gI M x0 4) ≤ x2 then some x1 else bd (gR M x0 8) fun r2 => gd (aB shC r2 0 x2) <| k4 (x0) ((x1 + (gI M r2 (x2 : Int32).toNatClampNeg))) ((x2 + 1))
def f_X3_paidInAll_4 (M : Mem)  : Nat → Nat → Int32 → Int32 → Option (Int32)
  | 0 => fun _ _ _ => none
  | n + 1 => fun y0 y1 y2 => s_X3_paidInAll_4 M  (f_X3_paidInAll_4 M  n) y0 y1 y2
def f_X3_paidInAll (M : Mem) (a0 : Nat) : Option (Int32) :=
  f_X3_paidInAll_4 M FU (a0) (0) (0)
theorem t_s_X3_paidInAll_4 {X : Cx} {M : Mem} {res : Int32} {k4 : Nat → Int32 → Int32 → Option (Int32)} (hX : OkX X cX3_paidInAll RX3 0 0) (hn : Fit X shC nC) (hR : RetI X shC nC .int (M, res)) (hk4 : ∀ x0 x1 x2, k4 x0 x1 x2 = some res → GoN X shC nC 0 0 M 4 [some (.ref (X.B + x0)), some (.int (x1)), some (.int (x2))] []) (x0 : Nat) (x1 : Int32) (x2 : Int32) (hf : s_X3_paidInAll_4 M k4 x0 x1 x2 = some res) : GoN X shC nC 0 0 M 4 [some (.ref (X.B + x0)), some (.int (x1)), some (.int (x2))] [] := by
  refine r_iload_n (i := 2) hX e_X3_paidInAll_4 rfl rfl ?_
  refine r_aload_n (i := 0) hX e_X3_paidInAll_5 rfl rfl ?_
  obtain ⟨g1, hf⟩ := gd_s hf
  refine r_getI hX hn e_X3_paidInAll_6 fl_3_98 rfl g1 ?_
  refine r_icmp_ge hX e_X3_paidInAll_9 (fun hc => ?_) (fun hc => ?_)
  · have hf := ite_t hf hc
    refine r_iload_n (i := 1) hX e_X3_paidInAll_27 rfl rfl ?_
    exact r_iret hX hR e_X3_paidInAll_28 (ro_s hf)
  · have hf := ite_f hf hc
    refine r_iload_n (i := 1) hX e_X3_paidInAll_12 rfl rfl ?_
    refine r_aload_n (i := 0) hX e_X3_paidInAll_13 rfl rfl ?_
    obtain ⟨r2, hr2, hf⟩ := bd_s hf
    refine r_getR hX hn e_X3_paidInAll_14 fl_3_39 rfl g1 hr2 ?_
    refine r_iload_n (i := 2) hX e_X3_paidInAll_17 rfl rfl ?_
    obtain ⟨g3, hf⟩ := gd_s hf
    refine r_iald hX hn e_X3_paidInAll_18 g3 ?_
    refine r_iadd hX e_X3_paidInAll_19 ?_
    refine r_istore_n (i := 1) hX e_X3_paidInAll_20 rfl (Nat.le_of_ble_eq_true rfl) rfl ?_
    refine r_iinc (v := x2 + 1) hX e_X3_paidInAll_21 rfl (ii_s ic_1) (Nat.le_of_ble_eq_true rfl) rfl ?_
    refine r_goto hX e_X3_paidInAll_24 ?_
    exact GoN.weak (hk4 (x0) ((x1 + (gI M r2 (x2 : Int32).toNatClampNeg))) ((x2 + 1)) hf) rfl (sb_s (sb_s (sb_s (sb_z _))))
theorem t_X3_paidInAll_4 {X : Cx} {M : Mem} {res : Int32}  (hX : OkX X cX3_paidInAll RX3 0 0) (hn : Fit X shC nC) (hR : RetI X shC nC .int (M, res))  : ∀ (n : Nat) (x0 : Nat) (x1 : Int32) (x2 : Int32),  f_X3_paidInAll_4 M  n x0 x1 x2 = some res → GoN X shC nC 0 0 M 4 [some (.ref (X.B + x0)), some (.int (x1)), some (.int (x2))] [] := by
  intro n
  induction n with
  | zero => intro x0 x1 x2 hf; cases hf
  | succ n ih => intro x0 x1 x2 hf; exact t_s_X3_paidInAll_4 hX hn hR  ih x0 x1 x2 hf
theorem t_X3_paidInAll {l : Launch} {M : Mem} {a0 : Nat} {res : Int32} (hf : f_X3_paidInAll M a0 = some res) : Ci l yX3_paidInAll cX3_paidInAll 3 (some .int) 0 0 shC nC (fun K B => [.ref (B + a0)]) M (M, res) := by
  refine met_i (own := RX3) (lo := fun K B => [some (.ref (B + a0)), none, none]) (by decide +kernel) rfl shC_ok (fun _ _ => rfl) (fun _ _ => rfl) (fun _ _ => Nat.le_of_ble_eq_true rfl) (fun X hX hn hlx hR => ?_)
  refine r_iconst hX e_X3_paidInAll_0 ic_0 ?_
  refine r_istore_n (i := 1) hX e_X3_paidInAll_1 rfl (Nat.le_of_ble_eq_true rfl) rfl ?_
  refine r_iconst hX e_X3_paidInAll_2 ic_0 ?_
  refine r_istore_n (i := 2) hX e_X3_paidInAll_3 rfl (Nat.le_of_ble_eq_true rfl) rfl ?_
  exact GoN.weak (t_X3_paidInAll_4 hX hn hR FU (a0) (0) (0) hf) rfl (sb_s (sb_s (sb_s (sb_z _))))
def s_X3_lackInAll_4 (M : Mem) (k4 : Nat → Int32 → Int32 → Option (Int32)) (x0 : Nat) (x1 : Int32) (x2 : Int32) : Option (Int32) :=
  gd (oB shC x0 3) <| bd (gR M x0 10) fun r2 => gd (oB shC r2 4) <| if (gI M r2 5) ≤ x2 then some x1 else bd (f_X3_lackOf M x0 x2) fun v4 => k4 (x0) ((x1 + v4)) ((x2 + 1))
def f_X3_lackInAll_4 (M : Mem)  : Nat → Nat → Int32 → Int32 → Option (Int32)
  | 0 => fun _ _ _ => none
  | n + 1 => fun y0 y1 y2 => s_X3_lackInAll_4 M  (f_X3_lackInAll_4 M  n) y0 y1 y2
def f_X3_lackInAll (M : Mem) (a0 : Nat) : Option (Int32) :=
  f_X3_lackInAll_4 M FU (a0) (0) (0)
theorem t_s_X3_lackInAll_4 {X : Cx} {M : Mem} {res : Int32} {k4 : Nat → Int32 → Int32 → Option (Int32)} (hX : OkX X cX3_lackInAll RX3 1 23) (hn : Fit X shC nC) (hR : RetI X shC nC .int (M, res)) (hk4 : ∀ x0 x1 x2, k4 x0 x1 x2 = some res → GoN X shC nC 0 0 M 4 [some (.ref (X.B + x0)), some (.int (x1)), some (.int (x2))] []) (x0 : Nat) (x1 : Int32) (x2 : Int32) (hf : s_X3_lackInAll_4 M k4 x0 x1 x2 = some res) : GoN X shC nC 0 0 M 4 [some (.ref (X.B + x0)), some (.int (x1)), some (.int (x2))] [] := by
  refine r_iload_n (i := 2) hX e_X3_lackInAll_4 rfl rfl ?_
  refine r_aload_n (i := 0) hX e_X3_lackInAll_5 rfl rfl ?_
  obtain ⟨g1, hf⟩ := gd_s hf
  obtain ⟨r2, hr2, hf⟩ := bd_s hf
  refine r_getR hX hn e_X3_lackInAll_6 fl_3_67 rfl g1 hr2 ?_
  obtain ⟨g3, hf⟩ := gd_s hf
  refine r_getI hX hn e_X3_lackInAll_9 fl_3_115 rfl g3 ?_
  refine r_icmp_ge hX e_X3_lackInAll_12 (fun hc => ?_) (fun hc => ?_)
  · have hf := ite_t hf hc
    refine r_iload_n (i := 1) hX e_X3_lackInAll_29 rfl rfl ?_
    exact r_iret hX hR e_X3_lackInAll_30 (ro_s hf)
  · have hf := ite_f hf hc
    refine r_iload_n (i := 1) hX e_X3_lackInAll_15 rfl rfl ?_
    refine r_aload_n (i := 0) hX e_X3_lackInAll_16 rfl rfl ?_
    refine r_iload_n (i := 2) hX e_X3_lackInAll_17 rfl rfl ?_
    obtain ⟨v4, hv4, hf⟩ := bd_s hf
    refine r_cvi (As := fun K B => [.int (x2)]) hX hn (t_X3_lackOf hv4) e_X3_lackInAll_18 cw_X3_lackOf cv_X3_lackOf lk_3_174 ⟨Nat.le_of_ble_eq_true rfl, Nat.le_of_ble_eq_true rfl⟩ (ci := 3) rfl rfl (Nat.le_of_ble_eq_true rfl) g1 rfl rfl (Nat.le_of_ble_eq_true rfl) ⟨Nat.zero_le _, Nat.zero_le _⟩ ?_
    refine r_iadd hX e_X3_lackInAll_21 ?_
    refine r_istore_n (i := 1) hX e_X3_lackInAll_22 rfl (Nat.le_of_ble_eq_true rfl) rfl ?_
    refine r_iinc (v := x2 + 1) hX e_X3_lackInAll_23 rfl (ii_s ic_1) (Nat.le_of_ble_eq_true rfl) rfl ?_
    refine r_goto hX e_X3_lackInAll_26 ?_
    exact GoN.weak (hk4 (x0) ((x1 + v4)) ((x2 + 1)) hf) rfl (sb_s (sb_s (sb_s (sb_z _))))
theorem t_X3_lackInAll_4 {X : Cx} {M : Mem} {res : Int32}  (hX : OkX X cX3_lackInAll RX3 1 23) (hn : Fit X shC nC) (hR : RetI X shC nC .int (M, res))  : ∀ (n : Nat) (x0 : Nat) (x1 : Int32) (x2 : Int32),  f_X3_lackInAll_4 M  n x0 x1 x2 = some res → GoN X shC nC 0 0 M 4 [some (.ref (X.B + x0)), some (.int (x1)), some (.int (x2))] [] := by
  intro n
  induction n with
  | zero => intro x0 x1 x2 hf; cases hf
  | succ n ih => intro x0 x1 x2 hf; exact t_s_X3_lackInAll_4 hX hn hR  ih x0 x1 x2 hf
theorem t_X3_lackInAll {l : Launch} {M : Mem} {a0 : Nat} {res : Int32} (hf : f_X3_lackInAll M a0 = some res) : Ci l yX3_lackInAll cX3_lackInAll 3 (some .int) 1 23 shC nC (fun K B => [.ref (B + a0)]) M (M, res) := by
  refine met_i (own := RX3) (lo := fun K B => [some (.ref (B + a0)), none, none]) (by decide +kernel) rfl shC_ok (fun _ _ => rfl) (fun _ _ => rfl) (fun _ _ => Nat.le_of_ble_eq_true rfl) (fun X hX hn hlx hR => ?_)
  refine r_iconst hX e_X3_lackInAll_0 ic_0 ?_
  refine r_istore_n (i := 1) hX e_X3_lackInAll_1 rfl (Nat.le_of_ble_eq_true rfl) rfl ?_
  refine r_iconst hX e_X3_lackInAll_2 ic_0 ?_
  refine r_istore_n (i := 2) hX e_X3_lackInAll_3 rfl (Nat.le_of_ble_eq_true rfl) rfl ?_
  exact GoN.weak (t_X3_lackInAll_4 hX hn hR FU (a0) (0) (0) hf) rfl (sb_s (sb_s (sb_s (sb_z _))))
def s_X3_buyersDone_4 (M : Mem) (k4 : Nat → Int32 → Int32 → Option (Int32)) (x0 : Nat) (x1 : Int32) (x2 : Int32) : Option (Int32) :=
  gd (oB shC x0 3) <| bd (gR M x0 10) fun r2 => gd (oB shC r2 4) <| if (gI M r2 5) ≤ x2 then some x1 else bd (gR M x0 9) fun r4 => gd (aB shC r4 0 x2) <| if (gI M r4 (x2 : Int32).toNatClampNeg) = (-1) then k4 (x0) (x1) ((x2 + 1)) else k4 (x0) ((x1 + 1)) ((x2 + 1))
def f_X3_buyersDone_4 (M : Mem)  : Nat → Nat → Int32 → Int32 → Option (Int32)
  | 0 => fun _ _ _ => none
  | n + 1 => fun y0 y1 y2 => s_X3_buyersDone_4 M  (f_X3_buyersDone_4 M  n) y0 y1 y2
def f_X3_buyersDone (M : Mem) (a0 : Nat) : Option (Int32) :=
  f_X3_buyersDone_4 M FU (a0) (0) (0)
theorem t_s_X3_buyersDone_4 {X : Cx} {M : Mem} {res : Int32} {k4 : Nat → Int32 → Int32 → Option (Int32)} (hX : OkX X cX3_buyersDone RX3 0 0) (hn : Fit X shC nC) (hR : RetI X shC nC .int (M, res)) (hk4 : ∀ x0 x1 x2, k4 x0 x1 x2 = some res → GoN X shC nC 0 0 M 4 [some (.ref (X.B + x0)), some (.int (x1)), some (.int (x2))] []) (x0 : Nat) (x1 : Int32) (x2 : Int32) (hf : s_X3_buyersDone_4 M k4 x0 x1 x2 = some res) : GoN X shC nC 0 0 M 4 [some (.ref (X.B + x0)), some (.int (x1)), some (.int (x2))] [] := by
  refine r_iload_n (i := 2) hX e_X3_buyersDone_4 rfl rfl ?_
  refine r_aload_n (i := 0) hX e_X3_buyersDone_5 rfl rfl ?_
  obtain ⟨g1, hf⟩ := gd_s hf
  obtain ⟨r2, hr2, hf⟩ := bd_s hf
  refine r_getR hX hn e_X3_buyersDone_6 fl_3_67 rfl g1 hr2 ?_
  obtain ⟨g3, hf⟩ := gd_s hf
  refine r_getI hX hn e_X3_buyersDone_9 fl_3_115 rfl g3 ?_
  refine r_icmp_ge hX e_X3_buyersDone_12 (fun hc => ?_) (fun hc => ?_)
  · have hf := ite_t hf hc
    refine r_iload_n (i := 1) hX e_X3_buyersDone_34 rfl rfl ?_
    exact r_iret hX hR e_X3_buyersDone_35 (ro_s hf)
  · have hf := ite_f hf hc
    refine r_aload_n (i := 0) hX e_X3_buyersDone_15 rfl rfl ?_
    obtain ⟨r4, hr4, hf⟩ := bd_s hf
    refine r_getR hX hn e_X3_buyersDone_16 fl_3_42 rfl g1 hr4 ?_
    refine r_iload_n (i := 2) hX e_X3_buyersDone_19 rfl rfl ?_
    obtain ⟨g5, hf⟩ := gd_s hf
    refine r_iald hX hn e_X3_buyersDone_20 g5 ?_
    refine r_iconst hX e_X3_buyersDone_21 ic_m1 ?_
    refine r_icmp_eq hX e_X3_buyersDone_22 (fun hc => ?_) (fun hc => ?_)
    · have hf := ite_t hf hc
      refine r_iinc (v := x2 + 1) hX e_X3_buyersDone_28 rfl (ii_s ic_1) (Nat.le_of_ble_eq_true rfl) rfl ?_
      refine r_goto hX e_X3_buyersDone_31 ?_
      exact GoN.weak (hk4 (x0) (x1) ((x2 + 1)) hf) rfl (sb_s (sb_s (sb_s (sb_z _))))
    · have hf := ite_f hf hc
      refine r_iinc (v := x1 + 1) hX e_X3_buyersDone_25 rfl (ii_s ic_1) (Nat.le_of_ble_eq_true rfl) rfl ?_
      refine r_iinc (v := x2 + 1) hX e_X3_buyersDone_28 rfl (ii_s ic_1) (Nat.le_of_ble_eq_true rfl) rfl ?_
      refine r_goto hX e_X3_buyersDone_31 ?_
      exact GoN.weak (hk4 (x0) ((x1 + 1)) ((x2 + 1)) hf) rfl (sb_s (sb_s (sb_s (sb_z _))))
theorem t_X3_buyersDone_4 {X : Cx} {M : Mem} {res : Int32}  (hX : OkX X cX3_buyersDone RX3 0 0) (hn : Fit X shC nC) (hR : RetI X shC nC .int (M, res))  : ∀ (n : Nat) (x0 : Nat) (x1 : Int32) (x2 : Int32),  f_X3_buyersDone_4 M  n x0 x1 x2 = some res → GoN X shC nC 0 0 M 4 [some (.ref (X.B + x0)), some (.int (x1)), some (.int (x2))] [] := by
  intro n
  induction n with
  | zero => intro x0 x1 x2 hf; cases hf
  | succ n ih => intro x0 x1 x2 hf; exact t_s_X3_buyersDone_4 hX hn hR  ih x0 x1 x2 hf
theorem t_X3_buyersDone {l : Launch} {M : Mem} {a0 : Nat} {res : Int32} (hf : f_X3_buyersDone M a0 = some res) : Ci l yX3_buyersDone cX3_buyersDone 3 (some .int) 0 0 shC nC (fun K B => [.ref (B + a0)]) M (M, res) := by
  refine met_i (own := RX3) (lo := fun K B => [some (.ref (B + a0)), none, none]) (by decide +kernel) rfl shC_ok (fun _ _ => rfl) (fun _ _ => rfl) (fun _ _ => Nat.le_of_ble_eq_true rfl) (fun X hX hn hlx hR => ?_)
  refine r_iconst hX e_X3_buyersDone_0 ic_0 ?_
  refine r_istore_n (i := 1) hX e_X3_buyersDone_1 rfl (Nat.le_of_ble_eq_true rfl) rfl ?_
  refine r_iconst hX e_X3_buyersDone_2 ic_0 ?_
  refine r_istore_n (i := 2) hX e_X3_buyersDone_3 rfl (Nat.le_of_ble_eq_true rfl) rfl ?_
  exact GoN.weak (t_X3_buyersDone_4 hX hn hR FU (a0) (0) (0) hf) rfl (sb_s (sb_s (sb_s (sb_z _))))
def f_X3_busiestMinute_61 (M : Mem) (k9 : Nat → Int32 → Int32 → Int32 → Int32 → Option (Int32)) (x0 : Nat) (x1 : Int32) (x2 : Int32) (x4 : Int32) (s0 : Int32) : Option (Int32) :=
  if s0 ≤ x2 then k9 (x0) (x1) (x2) (s0) ((x4 + 1)) else gd (oB shC x0 3) <| bd (gR M x0 5) fun r2 => gd (aB shC r2 0 x4) <| k9 (x0) ((gI M r2 (x4 : Int32).toNatClampNeg)) (s0) (s0) ((x4 + 1))
def f_X3_busiestMinute_47 (M : Mem) (k9 : Nat → Int32 → Int32 → Int32 → Int32 → Option (Int32)) (x0 : Nat) (x1 : Int32) (x2 : Int32) (x3 : Int32) (x4 : Int32) (s0 : Int32) : Option (Int32) :=
  if s0 = 0 then f_X3_busiestMinute_61 M k9 (x0) (x1) (x2) (x4) (1) else f_X3_busiestMinute_61 M k9 (x0) (x1) (x2) (x4) ((x3 + 1))
def f_X3_busiestMinute_46 (M : Mem) (k9 : Nat → Int32 → Int32 → Int32 → Int32 → Option (Int32)) (x0 : Nat) (x1 : Int32) (x2 : Int32) (x3 : Int32) (x4 : Int32) : Option (Int32) :=
  f_X3_busiestMinute_47 M k9 (x0) (x1) (x2) (x3) (x4) (0)
def s_X3_busiestMinute_9 (M : Mem) (k9 : Nat → Int32 → Int32 → Int32 → Int32 → Option (Int32)) (x0 : Nat) (x1 : Int32) (x2 : Int32) (x3 : Int32) (x4 : Int32) : Option (Int32) :=
  gd (oB shC x0 3) <| if (gI M x0 4) ≤ x4 then some x1 else if x4 ≤ 0 then f_X3_busiestMinute_46 M k9 (x0) (x1) (x2) (x3) (x4) else bd (gR M x0 5) fun r2 => gd (aB shC r2 0 x4) <| gd (aB shC r2 0 (x4 - 1)) <| if (gI M r2 (x4 : Int32).toNatClampNeg) = (gI M r2 ((x4 - 1) : Int32).toNatClampNeg) then f_X3_busiestMinute_47 M k9 (x0) (x1) (x2) (x3) (x4) (1) else f_X3_busiestMinute_46 M k9 (x0) (x1) (x2) (x3) (x4)
def f_X3_busiestMinute_9 (M : Mem)  : Nat → Nat → Int32 → Int32 → Int32 → Int32 → Option (Int32)
  | 0 => fun _ _ _ _ _ => none
  | n + 1 => fun y0 y1 y2 y3 y4 => s_X3_busiestMinute_9 M  (f_X3_busiestMinute_9 M  n) y0 y1 y2 y3 y4
def f_X3_busiestMinute (M : Mem) (a0 : Nat) : Option (Int32) :=
  f_X3_busiestMinute_9 M FU (a0) ((-1)) (0) (0) (0)
theorem t_X3_busiestMinute_61 {X : Cx} {M : Mem} {res : Int32} {k9 : Nat → Int32 → Int32 → Int32 → Int32 → Option (Int32)} (hX : OkX X cX3_busiestMinute RX3 0 0) (hn : Fit X shC nC) (hR : RetI X shC nC .int (M, res)) (hk9 : ∀ x0 x1 x2 x3 x4, k9 x0 x1 x2 x3 x4 = some res → GoN X shC nC 0 0 M 9 [some (.ref (X.B + x0)), some (.int (x1)), some (.int (x2)), some (.int (x3)), some (.int (x4)), none] []) (x0 : Nat) (x1 : Int32) (x2 : Int32) (x4 : Int32) (s0 : Int32) (hf : f_X3_busiestMinute_61 M k9 x0 x1 x2 x4 s0 = some res) : GoN X shC nC 0 0 M 61 [some (.ref (X.B + x0)), some (.int (x1)), some (.int (x2)), none, some (.int (x4)), none] [.int (s0)] := by
  refine r_istore_n (i := 3) hX e_X3_busiestMinute_61 rfl (Nat.le_of_ble_eq_true rfl) rfl ?_
  refine r_iload_n (i := 3) hX e_X3_busiestMinute_62 rfl rfl ?_
  refine r_iload_n (i := 2) hX e_X3_busiestMinute_63 rfl rfl ?_
  refine r_icmp_le hX e_X3_busiestMinute_64 (fun hc => ?_) (fun hc => ?_)
  · have hf := ite_t hf hc
    refine r_iinc (v := x4 + 1) hX e_X3_busiestMinute_77 rfl (ii_s ic_1) (Nat.le_of_ble_eq_true rfl) rfl ?_
    refine r_goto hX e_X3_busiestMinute_80 ?_
    exact GoN.weak (hk9 (x0) (x1) (x2) (s0) ((x4 + 1)) hf) rfl (sb_s (sb_s (sb_s (sb_s (sb_s (sb_n (sb_z _)))))))
  · have hf := ite_f hf hc
    refine r_iload_n (i := 3) hX e_X3_busiestMinute_67 rfl rfl ?_
    refine r_istore_n (i := 2) hX e_X3_busiestMinute_68 rfl (Nat.le_of_ble_eq_true rfl) rfl ?_
    refine r_aload_n (i := 0) hX e_X3_busiestMinute_69 rfl rfl ?_
    obtain ⟨g1, hf⟩ := gd_s hf
    obtain ⟨r2, hr2, hf⟩ := bd_s hf
    refine r_getR hX hn e_X3_busiestMinute_70 fl_3_29 rfl g1 hr2 ?_
    refine r_iload hX e_X3_busiestMinute_73 rfl ?_
    obtain ⟨g3, hf⟩ := gd_s hf
    refine r_iald hX hn e_X3_busiestMinute_75 g3 ?_
    refine r_istore_n (i := 1) hX e_X3_busiestMinute_76 rfl (Nat.le_of_ble_eq_true rfl) rfl ?_
    refine r_iinc (v := x4 + 1) hX e_X3_busiestMinute_77 rfl (ii_s ic_1) (Nat.le_of_ble_eq_true rfl) rfl ?_
    refine r_goto hX e_X3_busiestMinute_80 ?_
    exact GoN.weak (hk9 (x0) ((gI M r2 (x4 : Int32).toNatClampNeg)) (s0) (s0) ((x4 + 1)) hf) rfl (sb_s (sb_s (sb_s (sb_s (sb_s (sb_n (sb_z _)))))))
theorem t_X3_busiestMinute_47 {X : Cx} {M : Mem} {res : Int32} {k9 : Nat → Int32 → Int32 → Int32 → Int32 → Option (Int32)} (hX : OkX X cX3_busiestMinute RX3 0 0) (hn : Fit X shC nC) (hR : RetI X shC nC .int (M, res)) (hk9 : ∀ x0 x1 x2 x3 x4, k9 x0 x1 x2 x3 x4 = some res → GoN X shC nC 0 0 M 9 [some (.ref (X.B + x0)), some (.int (x1)), some (.int (x2)), some (.int (x3)), some (.int (x4)), none] []) (x0 : Nat) (x1 : Int32) (x2 : Int32) (x3 : Int32) (x4 : Int32) (s0 : Int32) (hf : f_X3_busiestMinute_47 M k9 x0 x1 x2 x3 x4 s0 = some res) : GoN X shC nC 0 0 M 47 [some (.ref (X.B + x0)), some (.int (x1)), some (.int (x2)), some (.int (x3)), some (.int (x4)), none] [.int (s0)] := by
  refine r_istore hX e_X3_busiestMinute_47 (Nat.le_of_ble_eq_true rfl) rfl ?_
  refine r_iload hX e_X3_busiestMinute_49 rfl ?_
  refine r_if_eq hX e_X3_busiestMinute_51 (fun hc => ?_) (fun hc => ?_)
  · have hf := ite_t hf hc
    refine r_iconst hX e_X3_busiestMinute_60 ic_1 ?_
    exact GoN.weak (t_X3_busiestMinute_61 hX hn hR hk9 (x0) (x1) (x2) (x4) (1) hf) rfl (sb_s (sb_s (sb_s (sb_n (sb_s (sb_n (sb_z _)))))))
  · have hf := ite_f hf hc
    refine r_iload_n (i := 3) hX e_X3_busiestMinute_54 rfl rfl ?_
    refine r_iconst hX e_X3_busiestMinute_55 ic_1 ?_
    refine r_iadd hX e_X3_busiestMinute_56 ?_
    refine r_goto hX e_X3_busiestMinute_57 ?_
    exact GoN.weak (t_X3_busiestMinute_61 hX hn hR hk9 (x0) (x1) (x2) (x4) ((x3 + 1)) hf) rfl (sb_s (sb_s (sb_s (sb_n (sb_s (sb_n (sb_z _)))))))
theorem t_X3_busiestMinute_46 {X : Cx} {M : Mem} {res : Int32} {k9 : Nat → Int32 → Int32 → Int32 → Int32 → Option (Int32)} (hX : OkX X cX3_busiestMinute RX3 0 0) (hn : Fit X shC nC) (hR : RetI X shC nC .int (M, res)) (hk9 : ∀ x0 x1 x2 x3 x4, k9 x0 x1 x2 x3 x4 = some res → GoN X shC nC 0 0 M 9 [some (.ref (X.B + x0)), some (.int (x1)), some (.int (x2)), some (.int (x3)), some (.int (x4)), none] []) (x0 : Nat) (x1 : Int32) (x2 : Int32) (x3 : Int32) (x4 : Int32) (hf : f_X3_busiestMinute_46 M k9 x0 x1 x2 x3 x4 = some res) : GoN X shC nC 0 0 M 46 [some (.ref (X.B + x0)), some (.int (x1)), some (.int (x2)), some (.int (x3)), some (.int (x4)), none] [] := by
  refine r_iconst hX e_X3_busiestMinute_46 ic_0 ?_
  exact GoN.weak (t_X3_busiestMinute_47 hX hn hR hk9 (x0) (x1) (x2) (x3) (x4) (0) hf) rfl (sb_s (sb_s (sb_s (sb_s (sb_s (sb_n (sb_z _)))))))
theorem t_s_X3_busiestMinute_9 {X : Cx} {M : Mem} {res : Int32} {k9 : Nat → Int32 → Int32 → Int32 → Int32 → Option (Int32)} (hX : OkX X cX3_busiestMinute RX3 0 0) (hn : Fit X shC nC) (hR : RetI X shC nC .int (M, res)) (hk9 : ∀ x0 x1 x2 x3 x4, k9 x0 x1 x2 x3 x4 = some res → GoN X shC nC 0 0 M 9 [some (.ref (X.B + x0)), some (.int (x1)), some (.int (x2)), some (.int (x3)), some (.int (x4)), none] []) (x0 : Nat) (x1 : Int32) (x2 : Int32) (x3 : Int32) (x4 : Int32) (hf : s_X3_busiestMinute_9 M k9 x0 x1 x2 x3 x4 = some res) : GoN X shC nC 0 0 M 9 [some (.ref (X.B + x0)), some (.int (x1)), some (.int (x2)), some (.int (x3)), some (.int (x4)), none] [] := by
  refine r_iload hX e_X3_busiestMinute_9 rfl ?_
  refine r_aload_n (i := 0) hX e_X3_busiestMinute_11 rfl rfl ?_
  obtain ⟨g1, hf⟩ := gd_s hf
  refine r_getI hX hn e_X3_busiestMinute_12 fl_3_98 rfl g1 ?_
  refine r_icmp_ge hX e_X3_busiestMinute_15 (fun hc => ?_) (fun hc => ?_)
  · have hf := ite_t hf hc
    refine r_iload_n (i := 1) hX e_X3_busiestMinute_83 rfl rfl ?_
    exact r_iret hX hR e_X3_busiestMinute_84 (ro_s hf)
  · have hf := ite_f hf hc
    refine r_iload hX e_X3_busiestMinute_18 rfl ?_
    refine r_if_le hX e_X3_busiestMinute_20 (fun hc => ?_) (fun hc => ?_)
    · have hf := ite_t hf hc
      exact GoN.weak (t_X3_busiestMinute_46 hX hn hR hk9 (x0) (x1) (x2) (x3) (x4) hf) rfl (sb_s (sb_s (sb_s (sb_s (sb_s (sb_n (sb_z _)))))))
    · have hf := ite_f hf hc
      refine r_aload_n (i := 0) hX e_X3_busiestMinute_23 rfl rfl ?_
      obtain ⟨r2, hr2, hf⟩ := bd_s hf
      refine r_getR hX hn e_X3_busiestMinute_24 fl_3_29 rfl g1 hr2 ?_
      refine r_iload hX e_X3_busiestMinute_27 rfl ?_
      obtain ⟨g3, hf⟩ := gd_s hf
      refine r_iald hX hn e_X3_busiestMinute_29 g3 ?_
      refine r_aload_n (i := 0) hX e_X3_busiestMinute_30 rfl rfl ?_
      refine r_getR hX hn e_X3_busiestMinute_31 fl_3_29 rfl g1 hr2 ?_
      refine r_iload hX e_X3_busiestMinute_34 rfl ?_
      refine r_iconst hX e_X3_busiestMinute_36 ic_1 ?_
      refine r_isub hX e_X3_busiestMinute_37 ?_
      obtain ⟨g4, hf⟩ := gd_s hf
      refine r_iald hX hn e_X3_busiestMinute_38 g4 ?_
      refine r_icmp_ne hX e_X3_busiestMinute_39 (fun hc => ?_) (fun hc => ?_)
      · have hf := ite_f hf hc
        exact GoN.weak (t_X3_busiestMinute_46 hX hn hR hk9 (x0) (x1) (x2) (x3) (x4) hf) rfl (sb_s (sb_s (sb_s (sb_s (sb_s (sb_n (sb_z _)))))))
      · have hf := ite_t hf hc
        refine r_iconst hX e_X3_busiestMinute_42 ic_1 ?_
        refine r_goto hX e_X3_busiestMinute_43 ?_
        exact GoN.weak (t_X3_busiestMinute_47 hX hn hR hk9 (x0) (x1) (x2) (x3) (x4) (1) hf) rfl (sb_s (sb_s (sb_s (sb_s (sb_s (sb_n (sb_z _)))))))
theorem t_X3_busiestMinute_9 {X : Cx} {M : Mem} {res : Int32}  (hX : OkX X cX3_busiestMinute RX3 0 0) (hn : Fit X shC nC) (hR : RetI X shC nC .int (M, res))  : ∀ (n : Nat) (x0 : Nat) (x1 : Int32) (x2 : Int32) (x3 : Int32) (x4 : Int32),  f_X3_busiestMinute_9 M  n x0 x1 x2 x3 x4 = some res → GoN X shC nC 0 0 M 9 [some (.ref (X.B + x0)), some (.int (x1)), some (.int (x2)), some (.int (x3)), some (.int (x4)), none] [] := by
  intro n
  induction n with
  | zero => intro x0 x1 x2 x3 x4 hf; cases hf
  | succ n ih => intro x0 x1 x2 x3 x4 hf; exact t_s_X3_busiestMinute_9 hX hn hR  ih x0 x1 x2 x3 x4 hf
theorem t_X3_busiestMinute {l : Launch} {M : Mem} {a0 : Nat} {res : Int32} (hf : f_X3_busiestMinute M a0 = some res) : Ci l yX3_busiestMinute cX3_busiestMinute 6 (some .int) 0 0 shC nC (fun K B => [.ref (B + a0)]) M (M, res) := by
  refine met_i (own := RX3) (lo := fun K B => [some (.ref (B + a0)), none, none, none, none, none]) (by decide +kernel) rfl shC_ok (fun _ _ => rfl) (fun _ _ => rfl) (fun _ _ => Nat.le_of_ble_eq_true rfl) (fun X hX hn hlx hR => ?_)
  refine r_iconst hX e_X3_busiestMinute_0 ic_m1 ?_
  refine r_istore_n (i := 1) hX e_X3_busiestMinute_1 rfl (Nat.le_of_ble_eq_true rfl) rfl ?_
  refine r_iconst hX e_X3_busiestMinute_2 ic_0 ?_
  refine r_istore_n (i := 2) hX e_X3_busiestMinute_3 rfl (Nat.le_of_ble_eq_true rfl) rfl ?_
  refine r_iconst hX e_X3_busiestMinute_4 ic_0 ?_
  refine r_istore_n (i := 3) hX e_X3_busiestMinute_5 rfl (Nat.le_of_ble_eq_true rfl) rfl ?_
  refine r_iconst hX e_X3_busiestMinute_6 ic_0 ?_
  refine r_istore hX e_X3_busiestMinute_7 (Nat.le_of_ble_eq_true rfl) rfl ?_
  exact GoN.weak (t_X3_busiestMinute_9 hX hn hR FU (a0) ((-1)) (0) (0) (0) hf) rfl (sb_s (sb_s (sb_s (sb_s (sb_s (sb_n (sb_z _)))))))
def f_X4_clear (M : Mem) (a0 : Nat) : Option (Mem) :=
  gd (oB shC a0 4) <| nx (sI M a0 0 0) fun M2 => nx (sI M2 a0 1 0) fun M3 => nx (sI M3 a0 2 0) fun M4 => nx (sI M4 a0 3 0) fun M5 => nx (sI M5 a0 4 0) fun M6 => nx (sI M6 a0 5 0) fun M7 => some M7
theorem t_X4_clear {l : Launch} {M : Mem} {a0 : Nat} {res : Mem} (hf : f_X4_clear M a0 = some res) : Cv l yX4_clear cX4_clear 1 none 0 0 shC nC (fun K B => [.ref (B + a0)]) M res := by
  refine met_v (own := RX4) (lo := fun K B => [some (.ref (B + a0))]) (by decide +kernel) rfl shC_ok (fun _ _ => rfl) (fun _ _ => rfl) (fun _ _ => Nat.le_of_ble_eq_true rfl) (fun X hX hn hlx hR => ?_)
  refine r_aload_n (i := 0) hX e_X4_clear_0 rfl rfl ?_
  refine r_iconst hX e_X4_clear_1 ic_0 ?_
  obtain ⟨g1, hf⟩ := gd_s hf
  obtain ⟨M2, hM2, hf⟩ := nx_s hf
  refine r_putI hX hn hM2 e_X4_clear_2 fl_4_32 fp_4_0 rfl g1 ?_
  refine r_aload_n (i := 0) hX e_X4_clear_5 rfl rfl ?_
  refine r_iconst hX e_X4_clear_6 ic_0 ?_
  obtain ⟨M3, hM3, hf⟩ := nx_s hf
  refine r_putI hX hn hM3 e_X4_clear_7 fl_4_36 fp_4_1 rfl g1 ?_
  refine r_aload_n (i := 0) hX e_X4_clear_10 rfl rfl ?_
  refine r_iconst hX e_X4_clear_11 ic_0 ?_
  obtain ⟨M4, hM4, hf⟩ := nx_s hf
  refine r_putI hX hn hM4 e_X4_clear_12 fl_4_39 fp_4_2 rfl g1 ?_
  refine r_aload_n (i := 0) hX e_X4_clear_15 rfl rfl ?_
  refine r_iconst hX e_X4_clear_16 ic_0 ?_
  obtain ⟨M5, hM5, hf⟩ := nx_s hf
  refine r_putI hX hn hM5 e_X4_clear_17 fl_4_42 fp_4_3 rfl g1 ?_
  refine r_aload_n (i := 0) hX e_X4_clear_20 rfl rfl ?_
  refine r_iconst hX e_X4_clear_21 ic_0 ?_
  obtain ⟨M6, hM6, hf⟩ := nx_s hf
  refine r_putI hX hn hM6 e_X4_clear_22 fl_4_45 fp_4_4 rfl g1 ?_
  refine r_aload_n (i := 0) hX e_X4_clear_25 rfl rfl ?_
  refine r_iconst hX e_X4_clear_26 ic_0 ?_
  obtain ⟨M7, hM7, hf⟩ := nx_s hf
  refine r_putI hX hn hM7 e_X4_clear_27 fl_4_48 fp_4_5 rfl g1 ?_
  exact r_ret hX hR e_X4_clear_30 hf
def f_X7_take (M : Mem) (a0 : Nat) (a1 : Nat) : Option (Mem) :=
  gd (oB shC a1 7) <| gd (oB shC a0 7) <| nx (sI M a0 0 (gI M a1 0)) fun M3 => gd (isZ (gI M3 a1 1)) <| nx (sI M3 a0 1 (gI M3 a1 1)) fun M5 => nx (sL M5 a0 2 (gL M5 a1 2)) fun M6 => some M6
theorem t_X7_take {l : Launch} {M : Mem} {a0 a1 : Nat} {res : Mem} (hf : f_X7_take M a0 a1 = some res) : Cv l yX7_take cX7_take 2 none 0 0 shC nC (fun K B => [.ref (B + a0), .ref (B + a1)]) M res := by
  refine met_v (own := RX7) (lo := fun K B => [some (.ref (B + a0)), some (.ref (B + a1))]) (by decide +kernel) rfl shC_ok (fun _ _ => rfl) (fun _ _ => rfl) (fun _ _ => Nat.le_of_ble_eq_true rfl) (fun X hX hn hlx hR => ?_)
  refine r_aload_n (i := 0) hX e_X7_take_0 rfl rfl ?_
  refine r_aload_n (i := 1) hX e_X7_take_1 rfl rfl ?_
  obtain ⟨g1, hf⟩ := gd_s hf
  refine r_getI hX hn e_X7_take_2 fl_7_7 rfl g1 ?_
  obtain ⟨g2, hf⟩ := gd_s hf
  obtain ⟨M3, hM3, hf⟩ := nx_s hf
  refine r_putI hX hn hM3 e_X7_take_5 fl_7_7 fp_7_0 rfl g2 ?_
  refine r_aload_n (i := 0) hX e_X7_take_8 rfl rfl ?_
  refine r_aload_n (i := 1) hX e_X7_take_9 rfl rfl ?_
  refine r_getI hX hn e_X7_take_10 fl_7_13 rfl g1 ?_
  obtain ⟨g4, hf⟩ := gd_s hf
  obtain ⟨M5, hM5, hf⟩ := nx_s hf
  refine r_putZ hX hn hM5 g4 e_X7_take_13 fl_7_13 fp_7_1 rfl g2 ?_
  refine r_aload_n (i := 0) hX e_X7_take_16 rfl rfl ?_
  refine r_aload_n (i := 1) hX e_X7_take_17 rfl rfl ?_
  refine r_getL hX hn e_X7_take_18 fl_7_17 rfl g1 ?_
  obtain ⟨M6, hM6, hf⟩ := nx_s hf
  refine r_putL hX hn hM6 e_X7_take_21 fl_7_17 fp_7_2 rfl g2 ?_
  exact r_ret hX hR e_X7_take_24 hf
def f_X9_take (M : Mem) (a0 : Nat) (a1 : Nat) : Option (Mem) :=
  gd (oB shC a1 9) <| gd (oB shC a0 9) <| nx (sI M a0 0 (gI M a1 0)) fun M3 => nx (sI M3 a0 1 (gI M3 a1 1)) fun M4 => nx (sI M4 a0 2 (gI M4 a1 2)) fun M5 => nx (sI M5 a0 3 (gI M5 a1 3)) fun M6 => nx (sI M6 a0 4 (gI M6 a1 4)) fun M7 => nx (sI M7 a0 5 (gI M7 a1 5)) fun M8 => nx (sI M8 a0 6 (gI M8 a1 6)) fun M9 => some M9
theorem t_X9_take {l : Launch} {M : Mem} {a0 a1 : Nat} {res : Mem} (hf : f_X9_take M a0 a1 = some res) : Cv l yX9_take cX9_take 2 none 0 0 shC nC (fun K B => [.ref (B + a0), .ref (B + a1)]) M res := by
  refine met_v (own := RX9) (lo := fun K B => [some (.ref (B + a0)), some (.ref (B + a1))]) (by decide +kernel) rfl shC_ok (fun _ _ => rfl) (fun _ _ => rfl) (fun _ _ => Nat.le_of_ble_eq_true rfl) (fun X hX hn hlx hR => ?_)
  refine r_aload_n (i := 0) hX e_X9_take_0 rfl rfl ?_
  refine r_aload_n (i := 1) hX e_X9_take_1 rfl rfl ?_
  obtain ⟨g1, hf⟩ := gd_s hf
  refine r_getI hX hn e_X9_take_2 fl_9_7 rfl g1 ?_
  obtain ⟨g2, hf⟩ := gd_s hf
  obtain ⟨M3, hM3, hf⟩ := nx_s hf
  refine r_putI hX hn hM3 e_X9_take_5 fl_9_7 fp_9_0 rfl g2 ?_
  refine r_aload_n (i := 0) hX e_X9_take_8 rfl rfl ?_
  refine r_aload_n (i := 1) hX e_X9_take_9 rfl rfl ?_
  refine r_getI hX hn e_X9_take_10 fl_9_13 rfl g1 ?_
  obtain ⟨M4, hM4, hf⟩ := nx_s hf
  refine r_putI hX hn hM4 e_X9_take_13 fl_9_13 fp_9_1 rfl g2 ?_
  refine r_aload_n (i := 0) hX e_X9_take_16 rfl rfl ?_
  refine r_aload_n (i := 1) hX e_X9_take_17 rfl rfl ?_
  refine r_getI hX hn e_X9_take_18 fl_9_16 rfl g1 ?_
  obtain ⟨M5, hM5, hf⟩ := nx_s hf
  refine r_putI hX hn hM5 e_X9_take_21 fl_9_16 fp_9_2 rfl g2 ?_
  refine r_aload_n (i := 0) hX e_X9_take_24 rfl rfl ?_
  refine r_aload_n (i := 1) hX e_X9_take_25 rfl rfl ?_
  refine r_getI hX hn e_X9_take_26 fl_9_19 rfl g1 ?_
  obtain ⟨M6, hM6, hf⟩ := nx_s hf
  refine r_putI hX hn hM6 e_X9_take_29 fl_9_19 fp_9_3 rfl g2 ?_
  refine r_aload_n (i := 0) hX e_X9_take_32 rfl rfl ?_
  refine r_aload_n (i := 1) hX e_X9_take_33 rfl rfl ?_
  refine r_getI hX hn e_X9_take_34 fl_9_22 rfl g1 ?_
  obtain ⟨M7, hM7, hf⟩ := nx_s hf
  refine r_putI hX hn hM7 e_X9_take_37 fl_9_22 fp_9_4 rfl g2 ?_
  refine r_aload_n (i := 0) hX e_X9_take_40 rfl rfl ?_
  refine r_aload_n (i := 1) hX e_X9_take_41 rfl rfl ?_
  refine r_getI hX hn e_X9_take_42 fl_9_25 rfl g1 ?_
  obtain ⟨M8, hM8, hf⟩ := nx_s hf
  refine r_putI hX hn hM8 e_X9_take_45 fl_9_25 fp_9_5 rfl g2 ?_
  refine r_aload_n (i := 0) hX e_X9_take_48 rfl rfl ?_
  refine r_aload_n (i := 1) hX e_X9_take_49 rfl rfl ?_
  refine r_getI hX hn e_X9_take_50 fl_9_28 rfl g1 ?_
  obtain ⟨M9, hM9, hf⟩ := nx_s hf
  refine r_putI hX hn hM9 e_X9_take_53 fl_9_28 fp_9_6 rfl g2 ?_
  exact r_ret hX hR e_X9_take_56 hf
def s_X4_take_112 (k112 : Mem → Nat → Nat → Int32 → Option (Mem)) (M : Mem) (x0 : Nat) (x1 : Nat) (x2 : Int32) : Option (Mem) :=
  gd (oB shC x0 4) <| if (gI M x0 5) ≤ x2 then some M else bd (gR M x0 8) fun r2 => gd (aB shC r2 6 x2) <| bd (gR M r2 (x2 : Int32).toNatClampNeg) fun r4 => gd (oB shC x1 4) <| bd (gR M x1 8) fun r6 => gd (aB shC r6 6 x2) <| bd (gR M r6 (x2 : Int32).toNatClampNeg) fun r8 => gd (oB shC r4 1) <| bd (f_X1_take M r4 r8) fun u10 => k112 u10 (x0) (x1) ((x2 + 1))
def f_X4_take_112  : Nat → Mem → Nat → Nat → Int32 → Option (Mem)
  | 0 => fun _ _ _ _ => none
  | n + 1 => fun y0 y1 y2 y3 => s_X4_take_112  (f_X4_take_112  n) y0 y1 y2 y3
def s_X4_take_81 (k81 : Mem → Nat → Nat → Int32 → Option (Mem)) (M : Mem) (x0 : Nat) (x1 : Nat) (x2 : Int32) : Option (Mem) :=
  gd (oB shC x0 4) <| if (gI M x0 4) ≤ x2 then f_X4_take_112 FU M (x0) (x1) (0) else bd (gR M x0 7) fun r2 => gd (aB shC r2 5 x2) <| bd (gR M r2 (x2 : Int32).toNatClampNeg) fun r4 => gd (oB shC x1 4) <| bd (gR M x1 7) fun r6 => gd (aB shC r6 5 x2) <| bd (gR M r6 (x2 : Int32).toNatClampNeg) fun r8 => gd (oB shC r4 9) <| bd (f_X9_take M r4 r8) fun u10 => k81 u10 (x0) (x1) ((x2 + 1))
def f_X4_take_81  : Nat → Mem → Nat → Nat → Int32 → Option (Mem)
  | 0 => fun _ _ _ _ => none
  | n + 1 => fun y0 y1 y2 y3 => s_X4_take_81  (f_X4_take_81  n) y0 y1 y2 y3
def s_X4_take_50 (k50 : Mem → Nat → Nat → Int32 → Option (Mem)) (M : Mem) (x0 : Nat) (x1 : Nat) (x2 : Int32) : Option (Mem) :=
  gd (oB shC x0 4) <| if (gI M x0 3) ≤ x2 then f_X4_take_81 FU M (x0) (x1) (0) else bd (gR M x0 6) fun r2 => gd (aB shC r2 4 x2) <| bd (gR M r2 (x2 : Int32).toNatClampNeg) fun r4 => gd (oB shC x1 4) <| bd (gR M x1 6) fun r6 => gd (aB shC r6 4 x2) <| bd (gR M r6 (x2 : Int32).toNatClampNeg) fun r8 => gd (oB shC r4 7) <| bd (f_X7_take M r4 r8) fun u10 => k50 u10 (x0) (x1) ((x2 + 1))
def f_X4_take_50  : Nat → Mem → Nat → Nat → Int32 → Option (Mem)
  | 0 => fun _ _ _ _ => none
  | n + 1 => fun y0 y1 y2 y3 => s_X4_take_50  (f_X4_take_50  n) y0 y1 y2 y3
def f_X4_take (M : Mem) (a0 : Nat) (a1 : Nat) : Option (Mem) :=
  gd (oB shC a1 4) <| gd (oB shC a0 4) <| nx (sI M a0 0 (gI M a1 0)) fun M3 => nx (sI M3 a0 1 (gI M3 a1 1)) fun M4 => nx (sI M4 a0 2 (gI M4 a1 2)) fun M5 => nx (sI M5 a0 3 (gI M5 a1 3)) fun M6 => nx (sI M6 a0 4 (gI M6 a1 4)) fun M7 => nx (sI M7 a0 5 (gI M7 a1 5)) fun M8 => f_X4_take_50 FU M8 (a0) (a1) (0)
theorem t_s_X4_take_112 {X : Cx} {res : Mem} {k112 : Mem → Nat → Nat → Int32 → Option (Mem)} (hX : OkX X cX4_take RX4 2 47) (hn : Fit X shC nC) (hR : RetV X shC nC res) (hk112 : ∀ M x0 x1 x2, k112 M x0 x1 x2 = some res → GoN X shC nC 0 0 M 112 [some (.ref (X.B + x0)), some (.ref (X.B + x1)), some (.int (x2))] []) (M : Mem) (x0 : Nat) (x1 : Nat) (x2 : Int32) (hf : s_X4_take_112 k112 M x0 x1 x2 = some res) : GoN X shC nC 0 0 M 112 [some (.ref (X.B + x0)), some (.ref (X.B + x1)), some (.int (x2))] [] := by
  refine r_iload_n (i := 2) hX e_X4_take_112 rfl rfl ?_
  refine r_aload_n (i := 0) hX e_X4_take_113 rfl rfl ?_
  obtain ⟨g1, hf⟩ := gd_s hf
  refine r_getI hX hn e_X4_take_114 fl_4_48 rfl g1 ?_
  refine r_icmp_ge hX e_X4_take_117 (fun hc => ?_) (fun hc => ?_)
  · have hf := ite_t hf hc
    exact r_ret hX hR e_X4_take_141 hf
  · have hf := ite_f hf hc
    refine r_aload_n (i := 0) hX e_X4_take_120 rfl rfl ?_
    obtain ⟨r2, hr2, hf⟩ := bd_s hf
    refine r_getR hX hn e_X4_take_121 fl_4_25 rfl g1 hr2 ?_
    refine r_iload_n (i := 2) hX e_X4_take_124 rfl rfl ?_
    obtain ⟨g3, hf⟩ := gd_s hf
    obtain ⟨r4, hr4, hf⟩ := bd_s hf
    refine r_aald hX hn e_X4_take_125 g3 (Nat.le_of_ble_eq_true rfl) rfl rfl rfl hr4 ?_
    refine r_aload_n (i := 1) hX e_X4_take_126 rfl rfl ?_
    obtain ⟨g5, hf⟩ := gd_s hf
    obtain ⟨r6, hr6, hf⟩ := bd_s hf
    refine r_getR hX hn e_X4_take_127 fl_4_25 rfl g5 hr6 ?_
    refine r_iload_n (i := 2) hX e_X4_take_130 rfl rfl ?_
    obtain ⟨g7, hf⟩ := gd_s hf
    obtain ⟨r8, hr8, hf⟩ := bd_s hf
    refine r_aald hX hn e_X4_take_131 g7 (Nat.le_of_ble_eq_true rfl) rfl rfl rfl hr8 ?_
    obtain ⟨g9, hf⟩ := gd_s hf
    obtain ⟨u10, hu10, hf⟩ := bd_s hf
    refine r_cvv (As := fun K B => [.ref (B + r8)]) hX hn (t_X1_take hu10) e_X4_take_132 cw_X1_take cv_X1_take lk_4_58 ⟨Nat.le_of_ble_eq_true rfl, Nat.le_of_ble_eq_true rfl⟩ (ci := 1) rfl rfl (Nat.le_of_ble_eq_true rfl) g9 rfl rfl (Nat.le_of_ble_eq_true rfl) ⟨Nat.zero_le _, Nat.zero_le _⟩ ?_
    refine r_iinc (v := x2 + 1) hX e_X4_take_135 rfl (ii_s ic_1) (Nat.le_of_ble_eq_true rfl) rfl ?_
    refine r_goto hX e_X4_take_138 ?_
    exact GoN.weak (hk112 u10 (x0) (x1) ((x2 + 1)) hf) rfl (sb_s (sb_s (sb_s (sb_z _))))
theorem t_X4_take_112 {X : Cx} {res : Mem}  (hX : OkX X cX4_take RX4 2 47) (hn : Fit X shC nC) (hR : RetV X shC nC res)  : ∀ (n : Nat) (M : Mem) (x0 : Nat) (x1 : Nat) (x2 : Int32),  f_X4_take_112  n M x0 x1 x2 = some res → GoN X shC nC 0 0 M 112 [some (.ref (X.B + x0)), some (.ref (X.B + x1)), some (.int (x2))] [] := by
  intro n
  induction n with
  | zero => intro M x0 x1 x2 hf; cases hf
  | succ n ih => intro M x0 x1 x2 hf; exact t_s_X4_take_112 hX hn hR  ih M x0 x1 x2 hf
theorem t_s_X4_take_81 {X : Cx} {res : Mem} {k81 : Mem → Nat → Nat → Int32 → Option (Mem)} (hX : OkX X cX4_take RX4 2 47) (hn : Fit X shC nC) (hR : RetV X shC nC res) (hk81 : ∀ M x0 x1 x2, k81 M x0 x1 x2 = some res → GoN X shC nC 0 0 M 81 [some (.ref (X.B + x0)), some (.ref (X.B + x1)), some (.int (x2))] []) (M : Mem) (x0 : Nat) (x1 : Nat) (x2 : Int32) (hf : s_X4_take_81 k81 M x0 x1 x2 = some res) : GoN X shC nC 0 0 M 81 [some (.ref (X.B + x0)), some (.ref (X.B + x1)), some (.int (x2))] [] := by
  refine r_iload_n (i := 2) hX e_X4_take_81 rfl rfl ?_
  refine r_aload_n (i := 0) hX e_X4_take_82 rfl rfl ?_
  obtain ⟨g1, hf⟩ := gd_s hf
  refine r_getI hX hn e_X4_take_83 fl_4_45 rfl g1 ?_
  refine r_icmp_ge hX e_X4_take_86 (fun hc => ?_) (fun hc => ?_)
  · have hf := ite_t hf hc
    refine r_iconst hX e_X4_take_110 ic_0 ?_
    refine r_istore_n (i := 2) hX e_X4_take_111 rfl (Nat.le_of_ble_eq_true rfl) rfl ?_
    exact GoN.weak (t_X4_take_112 hX hn hR FU M (x0) (x1) (0) hf) rfl (sb_s (sb_s (sb_s (sb_z _))))
  · have hf := ite_f hf hc
    refine r_aload_n (i := 0) hX e_X4_take_89 rfl rfl ?_
    obtain ⟨r2, hr2, hf⟩ := bd_s hf
    refine r_getR hX hn e_X4_take_90 fl_4_19 rfl g1 hr2 ?_
    refine r_iload_n (i := 2) hX e_X4_take_93 rfl rfl ?_
    obtain ⟨g3, hf⟩ := gd_s hf
    obtain ⟨r4, hr4, hf⟩ := bd_s hf
    refine r_aald hX hn e_X4_take_94 g3 (Nat.le_of_ble_eq_true rfl) rfl rfl rfl hr4 ?_
    refine r_aload_n (i := 1) hX e_X4_take_95 rfl rfl ?_
    obtain ⟨g5, hf⟩ := gd_s hf
    obtain ⟨r6, hr6, hf⟩ := bd_s hf
    refine r_getR hX hn e_X4_take_96 fl_4_19 rfl g5 hr6 ?_
    refine r_iload_n (i := 2) hX e_X4_take_99 rfl rfl ?_
    obtain ⟨g7, hf⟩ := gd_s hf
    obtain ⟨r8, hr8, hf⟩ := bd_s hf
    refine r_aald hX hn e_X4_take_100 g7 (Nat.le_of_ble_eq_true rfl) rfl rfl rfl hr8 ?_
    obtain ⟨g9, hf⟩ := gd_s hf
    obtain ⟨u10, hu10, hf⟩ := bd_s hf
    refine r_cvv (As := fun K B => [.ref (B + r8)]) hX hn (t_X9_take hu10) e_X4_take_101 cw_X9_take cv_X9_take lk_4_55 ⟨Nat.le_of_ble_eq_true rfl, Nat.le_of_ble_eq_true rfl⟩ (ci := 9) rfl rfl (Nat.le_of_ble_eq_true rfl) g9 rfl rfl (Nat.le_of_ble_eq_true rfl) ⟨Nat.zero_le _, Nat.zero_le _⟩ ?_
    refine r_iinc (v := x2 + 1) hX e_X4_take_104 rfl (ii_s ic_1) (Nat.le_of_ble_eq_true rfl) rfl ?_
    refine r_goto hX e_X4_take_107 ?_
    exact GoN.weak (hk81 u10 (x0) (x1) ((x2 + 1)) hf) rfl (sb_s (sb_s (sb_s (sb_z _))))
theorem t_X4_take_81 {X : Cx} {res : Mem}  (hX : OkX X cX4_take RX4 2 47) (hn : Fit X shC nC) (hR : RetV X shC nC res)  : ∀ (n : Nat) (M : Mem) (x0 : Nat) (x1 : Nat) (x2 : Int32),  f_X4_take_81  n M x0 x1 x2 = some res → GoN X shC nC 0 0 M 81 [some (.ref (X.B + x0)), some (.ref (X.B + x1)), some (.int (x2))] [] := by
  intro n
  induction n with
  | zero => intro M x0 x1 x2 hf; cases hf
  | succ n ih => intro M x0 x1 x2 hf; exact t_s_X4_take_81 hX hn hR  ih M x0 x1 x2 hf
theorem t_s_X4_take_50 {X : Cx} {res : Mem} {k50 : Mem → Nat → Nat → Int32 → Option (Mem)} (hX : OkX X cX4_take RX4 2 47) (hn : Fit X shC nC) (hR : RetV X shC nC res) (hk50 : ∀ M x0 x1 x2, k50 M x0 x1 x2 = some res → GoN X shC nC 0 0 M 50 [some (.ref (X.B + x0)), some (.ref (X.B + x1)), some (.int (x2))] []) (M : Mem) (x0 : Nat) (x1 : Nat) (x2 : Int32) (hf : s_X4_take_50 k50 M x0 x1 x2 = some res) : GoN X shC nC 0 0 M 50 [some (.ref (X.B + x0)), some (.ref (X.B + x1)), some (.int (x2))] [] := by
  refine r_iload_n (i := 2) hX e_X4_take_50 rfl rfl ?_
  refine r_aload_n (i := 0) hX e_X4_take_51 rfl rfl ?_
  obtain ⟨g1, hf⟩ := gd_s hf
  refine r_getI hX hn e_X4_take_52 fl_4_42 rfl g1 ?_
  refine r_icmp_ge hX e_X4_take_55 (fun hc => ?_) (fun hc => ?_)
  · have hf := ite_t hf hc
    refine r_iconst hX e_X4_take_79 ic_0 ?_
    refine r_istore_n (i := 2) hX e_X4_take_80 rfl (Nat.le_of_ble_eq_true rfl) rfl ?_
    exact GoN.weak (t_X4_take_81 hX hn hR FU M (x0) (x1) (0) hf) rfl (sb_s (sb_s (sb_s (sb_z _))))
  · have hf := ite_f hf hc
    refine r_aload_n (i := 0) hX e_X4_take_58 rfl rfl ?_
    obtain ⟨r2, hr2, hf⟩ := bd_s hf
    refine r_getR hX hn e_X4_take_59 fl_4_11 rfl g1 hr2 ?_
    refine r_iload_n (i := 2) hX e_X4_take_62 rfl rfl ?_
    obtain ⟨g3, hf⟩ := gd_s hf
    obtain ⟨r4, hr4, hf⟩ := bd_s hf
    refine r_aald hX hn e_X4_take_63 g3 (Nat.le_of_ble_eq_true rfl) rfl rfl rfl hr4 ?_
    refine r_aload_n (i := 1) hX e_X4_take_64 rfl rfl ?_
    obtain ⟨g5, hf⟩ := gd_s hf
    obtain ⟨r6, hr6, hf⟩ := bd_s hf
    refine r_getR hX hn e_X4_take_65 fl_4_11 rfl g5 hr6 ?_
    refine r_iload_n (i := 2) hX e_X4_take_68 rfl rfl ?_
    obtain ⟨g7, hf⟩ := gd_s hf
    obtain ⟨r8, hr8, hf⟩ := bd_s hf
    refine r_aald hX hn e_X4_take_69 g7 (Nat.le_of_ble_eq_true rfl) rfl rfl rfl hr8 ?_
    obtain ⟨g9, hf⟩ := gd_s hf
    obtain ⟨u10, hu10, hf⟩ := bd_s hf
    refine r_cvv (As := fun K B => [.ref (B + r8)]) hX hn (t_X7_take hu10) e_X4_take_70 cw_X7_take cv_X7_take lk_4_51 ⟨Nat.le_of_ble_eq_true rfl, Nat.le_of_ble_eq_true rfl⟩ (ci := 7) rfl rfl (Nat.le_of_ble_eq_true rfl) g9 rfl rfl (Nat.le_of_ble_eq_true rfl) ⟨Nat.zero_le _, Nat.zero_le _⟩ ?_
    refine r_iinc (v := x2 + 1) hX e_X4_take_73 rfl (ii_s ic_1) (Nat.le_of_ble_eq_true rfl) rfl ?_
    refine r_goto hX e_X4_take_76 ?_
    exact GoN.weak (hk50 u10 (x0) (x1) ((x2 + 1)) hf) rfl (sb_s (sb_s (sb_s (sb_z _))))
theorem t_X4_take_50 {X : Cx} {res : Mem}  (hX : OkX X cX4_take RX4 2 47) (hn : Fit X shC nC) (hR : RetV X shC nC res)  : ∀ (n : Nat) (M : Mem) (x0 : Nat) (x1 : Nat) (x2 : Int32),  f_X4_take_50  n M x0 x1 x2 = some res → GoN X shC nC 0 0 M 50 [some (.ref (X.B + x0)), some (.ref (X.B + x1)), some (.int (x2))] [] := by
  intro n
  induction n with
  | zero => intro M x0 x1 x2 hf; cases hf
  | succ n ih => intro M x0 x1 x2 hf; exact t_s_X4_take_50 hX hn hR  ih M x0 x1 x2 hf
theorem t_X4_take {l : Launch} {M : Mem} {a0 a1 : Nat} {res : Mem} (hf : f_X4_take M a0 a1 = some res) : Cv l yX4_take cX4_take 3 none 2 47 shC nC (fun K B => [.ref (B + a0), .ref (B + a1)]) M res := by
  refine met_v (own := RX4) (lo := fun K B => [some (.ref (B + a0)), some (.ref (B + a1)), none]) (by decide +kernel) rfl shC_ok (fun _ _ => rfl) (fun _ _ => rfl) (fun _ _ => Nat.le_of_ble_eq_true rfl) (fun X hX hn hlx hR => ?_)
  refine r_aload_n (i := 0) hX e_X4_take_0 rfl rfl ?_
  refine r_aload_n (i := 1) hX e_X4_take_1 rfl rfl ?_
  obtain ⟨g1, hf⟩ := gd_s hf
  refine r_getI hX hn e_X4_take_2 fl_4_32 rfl g1 ?_
  obtain ⟨g2, hf⟩ := gd_s hf
  obtain ⟨M3, hM3, hf⟩ := nx_s hf
  refine r_putI hX hn hM3 e_X4_take_5 fl_4_32 fp_4_0 rfl g2 ?_
  refine r_aload_n (i := 0) hX e_X4_take_8 rfl rfl ?_
  refine r_aload_n (i := 1) hX e_X4_take_9 rfl rfl ?_
  refine r_getI hX hn e_X4_take_10 fl_4_36 rfl g1 ?_
  obtain ⟨M4, hM4, hf⟩ := nx_s hf
  refine r_putI hX hn hM4 e_X4_take_13 fl_4_36 fp_4_1 rfl g2 ?_
  refine r_aload_n (i := 0) hX e_X4_take_16 rfl rfl ?_
  refine r_aload_n (i := 1) hX e_X4_take_17 rfl rfl ?_
  refine r_getI hX hn e_X4_take_18 fl_4_39 rfl g1 ?_
  obtain ⟨M5, hM5, hf⟩ := nx_s hf
  refine r_putI hX hn hM5 e_X4_take_21 fl_4_39 fp_4_2 rfl g2 ?_
  refine r_aload_n (i := 0) hX e_X4_take_24 rfl rfl ?_
  refine r_aload_n (i := 1) hX e_X4_take_25 rfl rfl ?_
  refine r_getI hX hn e_X4_take_26 fl_4_42 rfl g1 ?_
  obtain ⟨M6, hM6, hf⟩ := nx_s hf
  refine r_putI hX hn hM6 e_X4_take_29 fl_4_42 fp_4_3 rfl g2 ?_
  refine r_aload_n (i := 0) hX e_X4_take_32 rfl rfl ?_
  refine r_aload_n (i := 1) hX e_X4_take_33 rfl rfl ?_
  refine r_getI hX hn e_X4_take_34 fl_4_45 rfl g1 ?_
  obtain ⟨M7, hM7, hf⟩ := nx_s hf
  refine r_putI hX hn hM7 e_X4_take_37 fl_4_45 fp_4_4 rfl g2 ?_
  refine r_aload_n (i := 0) hX e_X4_take_40 rfl rfl ?_
  refine r_aload_n (i := 1) hX e_X4_take_41 rfl rfl ?_
  refine r_getI hX hn e_X4_take_42 fl_4_48 rfl g1 ?_
  obtain ⟨M8, hM8, hf⟩ := nx_s hf
  refine r_putI hX hn hM8 e_X4_take_45 fl_4_48 fp_4_5 rfl g2 ?_
  refine r_iconst hX e_X4_take_48 ic_0 ?_
  refine r_istore_n (i := 2) hX e_X4_take_49 rfl (Nat.le_of_ble_eq_true rfl) rfl ?_
  exact GoN.weak (t_X4_take_50 hX hn hR FU M8 (a0) (a1) (0) hf) rfl (sb_s (sb_s (sb_s (sb_z _))))
def f_X4_isTold (M : Mem) (a0 : Nat) : Option (Int32) :=
  gd (oB shC a0 4) <| if (gI M a0 2) ≤ 0 then some 0 else some 1
theorem t_X4_isTold {l : Launch} {M : Mem} {a0 : Nat} {res : Int32} (hf : f_X4_isTold M a0 = some res) : Ci l yX4_isTold cX4_isTold 1 (some .boolean) 0 0 shC nC (fun K B => [.ref (B + a0)]) M (M, res) := by
  refine met_i (own := RX4) (lo := fun K B => [some (.ref (B + a0))]) (by decide +kernel) rfl shC_ok (fun _ _ => rfl) (fun _ _ => rfl) (fun _ _ => Nat.le_of_ble_eq_true rfl) (fun X hX hn hlx hR => ?_)
  refine r_aload_n (i := 0) hX e_X4_isTold_0 rfl rfl ?_
  obtain ⟨g1, hf⟩ := gd_s hf
  refine r_getI hX hn e_X4_isTold_1 fl_4_39 rfl g1 ?_
  refine r_if_le hX e_X4_isTold_4 (fun hc => ?_) (fun hc => ?_)
  · have hf := ite_t hf hc
    refine r_iconst hX e_X4_isTold_11 ic_0 ?_
    exact r_zret hX hR rfl e_X4_isTold_12 (ro_s hf)
  · have hf := ite_f hf hc
    refine r_iconst hX e_X4_isTold_7 ic_1 ?_
    refine r_goto hX e_X4_isTold_8 ?_
    exact r_zret hX hR rfl e_X4_isTold_12 (ro_s hf)
def f_X4_hasPlace (M : Mem) (a0 : Nat) (a1 : Int32) : Option (Int32) :=
  if a1 < 0 then some 0 else gd (oB shC a0 4) <| if (gI M a0 0) ≤ a1 then some 0 else some 1
theorem t_X4_hasPlace {l : Launch} {M : Mem} {a0 : Nat} {a1 : Int32} {res : Int32} (hf : f_X4_hasPlace M a0 a1 = some res) : Ci l yX4_hasPlace cX4_hasPlace 2 (some .boolean) 0 0 shC nC (fun K B => [.ref (B + a0), .int a1]) M (M, res) := by
  refine met_i (own := RX4) (lo := fun K B => [some (.ref (B + a0)), some (.int a1)]) (by decide +kernel) rfl shC_ok (fun _ _ => rfl) (fun _ _ => rfl) (fun _ _ => Nat.le_of_ble_eq_true rfl) (fun X hX hn hlx hR => ?_)
  refine r_iload_n (i := 1) hX e_X4_hasPlace_0 rfl rfl ?_
  refine r_if_lt hX e_X4_hasPlace_1 (fun hc => ?_) (fun hc => ?_)
  · have hf := ite_t hf hc
    refine r_iconst hX e_X4_hasPlace_16 ic_0 ?_
    exact r_zret hX hR rfl e_X4_hasPlace_17 (ro_s hf)
  · have hf := ite_f hf hc
    refine r_iload_n (i := 1) hX e_X4_hasPlace_4 rfl rfl ?_
    refine r_aload_n (i := 0) hX e_X4_hasPlace_5 rfl rfl ?_
    obtain ⟨g1, hf⟩ := gd_s hf
    refine r_getI hX hn e_X4_hasPlace_6 fl_4_32 rfl g1 ?_
    refine r_icmp_ge hX e_X4_hasPlace_9 (fun hc => ?_) (fun hc => ?_)
    · have hf := ite_t hf hc
      refine r_iconst hX e_X4_hasPlace_16 ic_0 ?_
      exact r_zret hX hR rfl e_X4_hasPlace_17 (ro_s hf)
    · have hf := ite_f hf hc
      refine r_iconst hX e_X4_hasPlace_12 ic_1 ?_
      refine r_goto hX e_X4_hasPlace_13 ?_
      exact r_zret hX hR rfl e_X4_hasPlace_17 (ro_s hf)
def f_X4_hasMinute (M : Mem) (a0 : Nat) (a1 : Int32) : Option (Int32) :=
  if a1 < 0 then some 0 else gd (oB shC a0 4) <| if (gI M a0 1) ≤ a1 then some 0 else some 1
theorem t_X4_hasMinute {l : Launch} {M : Mem} {a0 : Nat} {a1 : Int32} {res : Int32} (hf : f_X4_hasMinute M a0 a1 = some res) : Ci l yX4_hasMinute cX4_hasMinute 2 (some .boolean) 0 0 shC nC (fun K B => [.ref (B + a0), .int a1]) M (M, res) := by
  refine met_i (own := RX4) (lo := fun K B => [some (.ref (B + a0)), some (.int a1)]) (by decide +kernel) rfl shC_ok (fun _ _ => rfl) (fun _ _ => rfl) (fun _ _ => Nat.le_of_ble_eq_true rfl) (fun X hX hn hlx hR => ?_)
  refine r_iload_n (i := 1) hX e_X4_hasMinute_0 rfl rfl ?_
  refine r_if_lt hX e_X4_hasMinute_1 (fun hc => ?_) (fun hc => ?_)
  · have hf := ite_t hf hc
    refine r_iconst hX e_X4_hasMinute_16 ic_0 ?_
    exact r_zret hX hR rfl e_X4_hasMinute_17 (ro_s hf)
  · have hf := ite_f hf hc
    refine r_iload_n (i := 1) hX e_X4_hasMinute_4 rfl rfl ?_
    refine r_aload_n (i := 0) hX e_X4_hasMinute_5 rfl rfl ?_
    obtain ⟨g1, hf⟩ := gd_s hf
    refine r_getI hX hn e_X4_hasMinute_6 fl_4_36 rfl g1 ?_
    refine r_icmp_ge hX e_X4_hasMinute_9 (fun hc => ?_) (fun hc => ?_)
    · have hf := ite_t hf hc
      refine r_iconst hX e_X4_hasMinute_16 ic_0 ?_
      exact r_zret hX hR rfl e_X4_hasMinute_17 (ro_s hf)
    · have hf := ite_f hf hc
      refine r_iconst hX e_X4_hasMinute_12 ic_1 ?_
      refine r_goto hX e_X4_hasMinute_13 ?_
      exact r_zret hX hR rfl e_X4_hasMinute_17 (ro_s hf)
def f_X4_hasRing (M : Mem) (a0 : Nat) (a1 : Int32) : Option (Int32) :=
  if a1 < 0 then some 0 else gd (oB shC a0 4) <| if (gI M a0 3) ≤ a1 then some 0 else some 1
theorem t_X4_hasRing {l : Launch} {M : Mem} {a0 : Nat} {a1 : Int32} {res : Int32} (hf : f_X4_hasRing M a0 a1 = some res) : Ci l yX4_hasRing cX4_hasRing 2 (some .boolean) 0 0 shC nC (fun K B => [.ref (B + a0), .int a1]) M (M, res) := by
  refine met_i (own := RX4) (lo := fun K B => [some (.ref (B + a0)), some (.int a1)]) (by decide +kernel) rfl shC_ok (fun _ _ => rfl) (fun _ _ => rfl) (fun _ _ => Nat.le_of_ble_eq_true rfl) (fun X hX hn hlx hR => ?_)
  refine r_iload_n (i := 1) hX e_X4_hasRing_0 rfl rfl ?_
  refine r_if_lt hX e_X4_hasRing_1 (fun hc => ?_) (fun hc => ?_)
  · have hf := ite_t hf hc
    refine r_iconst hX e_X4_hasRing_16 ic_0 ?_
    exact r_zret hX hR rfl e_X4_hasRing_17 (ro_s hf)
  · have hf := ite_f hf hc
    refine r_iload_n (i := 1) hX e_X4_hasRing_4 rfl rfl ?_
    refine r_aload_n (i := 0) hX e_X4_hasRing_5 rfl rfl ?_
    obtain ⟨g1, hf⟩ := gd_s hf
    refine r_getI hX hn e_X4_hasRing_6 fl_4_42 rfl g1 ?_
    refine r_icmp_ge hX e_X4_hasRing_9 (fun hc => ?_) (fun hc => ?_)
    · have hf := ite_t hf hc
      refine r_iconst hX e_X4_hasRing_16 ic_0 ?_
      exact r_zret hX hR rfl e_X4_hasRing_17 (ro_s hf)
    · have hf := ite_f hf hc
      refine r_iconst hX e_X4_hasRing_12 ic_1 ?_
      refine r_goto hX e_X4_hasRing_13 ?_
      exact r_zret hX hR rfl e_X4_hasRing_17 (ro_s hf)
def f_X4_hasStall (M : Mem) (a0 : Nat) (a1 : Int32) : Option (Int32) :=
  if a1 < 0 then some 0 else gd (oB shC a0 4) <| if (gI M a0 4) ≤ a1 then some 0 else some 1
theorem t_X4_hasStall {l : Launch} {M : Mem} {a0 : Nat} {a1 : Int32} {res : Int32} (hf : f_X4_hasStall M a0 a1 = some res) : Ci l yX4_hasStall cX4_hasStall 2 (some .boolean) 0 0 shC nC (fun K B => [.ref (B + a0), .int a1]) M (M, res) := by
  refine met_i (own := RX4) (lo := fun K B => [some (.ref (B + a0)), some (.int a1)]) (by decide +kernel) rfl shC_ok (fun _ _ => rfl) (fun _ _ => rfl) (fun _ _ => Nat.le_of_ble_eq_true rfl) (fun X hX hn hlx hR => ?_)
  refine r_iload_n (i := 1) hX e_X4_hasStall_0 rfl rfl ?_
  refine r_if_lt hX e_X4_hasStall_1 (fun hc => ?_) (fun hc => ?_)
  · have hf := ite_t hf hc
    refine r_iconst hX e_X4_hasStall_16 ic_0 ?_
    exact r_zret hX hR rfl e_X4_hasStall_17 (ro_s hf)
  · have hf := ite_f hf hc
    refine r_iload_n (i := 1) hX e_X4_hasStall_4 rfl rfl ?_
    refine r_aload_n (i := 0) hX e_X4_hasStall_5 rfl rfl ?_
    obtain ⟨g1, hf⟩ := gd_s hf
    refine r_getI hX hn e_X4_hasStall_6 fl_4_45 rfl g1 ?_
    refine r_icmp_ge hX e_X4_hasStall_9 (fun hc => ?_) (fun hc => ?_)
    · have hf := ite_t hf hc
      refine r_iconst hX e_X4_hasStall_16 ic_0 ?_
      exact r_zret hX hR rfl e_X4_hasStall_17 (ro_s hf)
    · have hf := ite_f hf hc
      refine r_iconst hX e_X4_hasStall_12 ic_1 ?_
      refine r_goto hX e_X4_hasStall_13 ?_
      exact r_zret hX hR rfl e_X4_hasStall_17 (ro_s hf)
def f_X4_hasBuyer (M : Mem) (a0 : Nat) (a1 : Int32) : Option (Int32) :=
  if a1 < 0 then some 0 else gd (oB shC a0 4) <| if (gI M a0 5) ≤ a1 then some 0 else some 1
theorem t_X4_hasBuyer {l : Launch} {M : Mem} {a0 : Nat} {a1 : Int32} {res : Int32} (hf : f_X4_hasBuyer M a0 a1 = some res) : Ci l yX4_hasBuyer cX4_hasBuyer 2 (some .boolean) 0 0 shC nC (fun K B => [.ref (B + a0), .int a1]) M (M, res) := by
  refine met_i (own := RX4) (lo := fun K B => [some (.ref (B + a0)), some (.int a1)]) (by decide +kernel) rfl shC_ok (fun _ _ => rfl) (fun _ _ => rfl) (fun _ _ => Nat.le_of_ble_eq_true rfl) (fun X hX hn hlx hR => ?_)
  refine r_iload_n (i := 1) hX e_X4_hasBuyer_0 rfl rfl ?_
  refine r_if_lt hX e_X4_hasBuyer_1 (fun hc => ?_) (fun hc => ?_)
  · have hf := ite_t hf hc
    refine r_iconst hX e_X4_hasBuyer_16 ic_0 ?_
    exact r_zret hX hR rfl e_X4_hasBuyer_17 (ro_s hf)
  · have hf := ite_f hf hc
    refine r_iload_n (i := 1) hX e_X4_hasBuyer_4 rfl rfl ?_
    refine r_aload_n (i := 0) hX e_X4_hasBuyer_5 rfl rfl ?_
    obtain ⟨g1, hf⟩ := gd_s hf
    refine r_getI hX hn e_X4_hasBuyer_6 fl_4_48 rfl g1 ?_
    refine r_icmp_ge hX e_X4_hasBuyer_9 (fun hc => ?_) (fun hc => ?_)
    · have hf := ite_t hf hc
      refine r_iconst hX e_X4_hasBuyer_16 ic_0 ?_
      exact r_zret hX hR rfl e_X4_hasBuyer_17 (ro_s hf)
    · have hf := ite_f hf hc
      refine r_iconst hX e_X4_hasBuyer_12 ic_1 ?_
      refine r_goto hX e_X4_hasBuyer_13 ?_
      exact r_zret hX hR rfl e_X4_hasBuyer_17 (ro_s hf)
def s_X4_stuckMinutes_4 (M : Mem) (k4 : Nat → Int32 → Int32 → Option (Int32)) (x0 : Nat) (x1 : Int32) (x2 : Int32) : Option (Int32) :=
  gd (oB shC x0 4) <| if (gI M x0 3) ≤ x2 then some x1 else bd (gR M x0 6) fun r2 => gd (aB shC r2 4 x2) <| bd (gR M r2 (x2 : Int32).toNatClampNeg) fun r4 => gd (oB shC r4 7) <| bd (f_X22_bitCount M (gL M r4 2)) fun v6 => k4 (x0) ((x1 + v6)) ((x2 + 1))
def f_X4_stuckMinutes_4 (M : Mem)  : Nat → Nat → Int32 → Int32 → Option (Int32)
  | 0 => fun _ _ _ => none
  | n + 1 => fun y0 y1 y2 => s_X4_stuckMinutes_4 M  (f_X4_stuckMinutes_4 M  n) y0 y1 y2
def f_X4_stuckMinutes (M : Mem) (a0 : Nat) : Option (Int32) :=
  f_X4_stuckMinutes_4 M FU (a0) (0) (0)
theorem t_s_X4_stuckMinutes_4 {X : Cx} {M : Mem} {res : Int32} {k4 : Nat → Int32 → Int32 → Option (Int32)} (hX : OkX X cX4_stuckMinutes RX4 1 21) (hn : Fit X shC nC) (hR : RetI X shC nC .int (M, res)) (hk4 : ∀ x0 x1 x2, k4 x0 x1 x2 = some res → GoN X shC nC 0 0 M 4 [some (.ref (X.B + x0)), some (.int (x1)), some (.int (x2))] []) (x0 : Nat) (x1 : Int32) (x2 : Int32) (hf : s_X4_stuckMinutes_4 M k4 x0 x1 x2 = some res) : GoN X shC nC 0 0 M 4 [some (.ref (X.B + x0)), some (.int (x1)), some (.int (x2))] [] := by
  refine r_iload_n (i := 2) hX e_X4_stuckMinutes_4 rfl rfl ?_
  refine r_aload_n (i := 0) hX e_X4_stuckMinutes_5 rfl rfl ?_
  obtain ⟨g1, hf⟩ := gd_s hf
  refine r_getI hX hn e_X4_stuckMinutes_6 fl_4_42 rfl g1 ?_
  refine r_icmp_ge hX e_X4_stuckMinutes_9 (fun hc => ?_) (fun hc => ?_)
  · have hf := ite_t hf hc
    refine r_iload_n (i := 1) hX e_X4_stuckMinutes_33 rfl rfl ?_
    exact r_iret hX hR e_X4_stuckMinutes_34 (ro_s hf)
  · have hf := ite_f hf hc
    refine r_iload_n (i := 1) hX e_X4_stuckMinutes_12 rfl rfl ?_
    refine r_aload_n (i := 0) hX e_X4_stuckMinutes_13 rfl rfl ?_
    obtain ⟨r2, hr2, hf⟩ := bd_s hf
    refine r_getR hX hn e_X4_stuckMinutes_14 fl_4_11 rfl g1 hr2 ?_
    refine r_iload_n (i := 2) hX e_X4_stuckMinutes_17 rfl rfl ?_
    obtain ⟨g3, hf⟩ := gd_s hf
    obtain ⟨r4, hr4, hf⟩ := bd_s hf
    refine r_aald hX hn e_X4_stuckMinutes_18 g3 (Nat.le_of_ble_eq_true rfl) rfl rfl rfl hr4 ?_
    obtain ⟨g5, hf⟩ := gd_s hf
    refine r_getL hX hn e_X4_stuckMinutes_19 fl_4_64 rfl g5 ?_
    obtain ⟨v6, hv6, hf⟩ := bd_s hf
    refine r_csi (As := fun K B => [.long ((gL M r4 2))]) hX hn (t_X22_bitCount hv6) e_X4_stuckMinutes_22 cw_X22_bitCount cv_X22_bitCount lk_4_68 ⟨Nat.le_of_ble_eq_true rfl, Nat.le_of_ble_eq_true rfl⟩ rfl rfl (Nat.le_of_ble_eq_true rfl) ⟨Nat.zero_le _, Nat.zero_le _⟩ ?_
    refine r_iadd hX e_X4_stuckMinutes_25 ?_
    refine r_istore_n (i := 1) hX e_X4_stuckMinutes_26 rfl (Nat.le_of_ble_eq_true rfl) rfl ?_
    refine r_iinc (v := x2 + 1) hX e_X4_stuckMinutes_27 rfl (ii_s ic_1) (Nat.le_of_ble_eq_true rfl) rfl ?_
    refine r_goto hX e_X4_stuckMinutes_30 ?_
    exact GoN.weak (hk4 (x0) ((x1 + v6)) ((x2 + 1)) hf) rfl (sb_s (sb_s (sb_s (sb_z _))))
theorem t_X4_stuckMinutes_4 {X : Cx} {M : Mem} {res : Int32}  (hX : OkX X cX4_stuckMinutes RX4 1 21) (hn : Fit X shC nC) (hR : RetI X shC nC .int (M, res))  : ∀ (n : Nat) (x0 : Nat) (x1 : Int32) (x2 : Int32),  f_X4_stuckMinutes_4 M  n x0 x1 x2 = some res → GoN X shC nC 0 0 M 4 [some (.ref (X.B + x0)), some (.int (x1)), some (.int (x2))] [] := by
  intro n
  induction n with
  | zero => intro x0 x1 x2 hf; cases hf
  | succ n ih => intro x0 x1 x2 hf; exact t_s_X4_stuckMinutes_4 hX hn hR  ih x0 x1 x2 hf
theorem t_X4_stuckMinutes {l : Launch} {M : Mem} {a0 : Nat} {res : Int32} (hf : f_X4_stuckMinutes M a0 = some res) : Ci l yX4_stuckMinutes cX4_stuckMinutes 3 (some .int) 1 21 shC nC (fun K B => [.ref (B + a0)]) M (M, res) := by
  refine met_i (own := RX4) (lo := fun K B => [some (.ref (B + a0)), none, none]) (by decide +kernel) rfl shC_ok (fun _ _ => rfl) (fun _ _ => rfl) (fun _ _ => Nat.le_of_ble_eq_true rfl) (fun X hX hn hlx hR => ?_)
  refine r_iconst hX e_X4_stuckMinutes_0 ic_0 ?_
  refine r_istore_n (i := 1) hX e_X4_stuckMinutes_1 rfl (Nat.le_of_ble_eq_true rfl) rfl ?_
  refine r_iconst hX e_X4_stuckMinutes_2 ic_0 ?_
  refine r_istore_n (i := 2) hX e_X4_stuckMinutes_3 rfl (Nat.le_of_ble_eq_true rfl) rfl ?_
  exact GoN.weak (t_X4_stuckMinutes_4 hX hn hR FU (a0) (0) (0) hf) rfl (sb_s (sb_s (sb_s (sb_z _))))
def s_X5_unload_3 (k3 : Mem → Nat → Nat → Nat → Int32 → Int32 → Int32 → Option (Mem)) (M : Mem) (x0 : Nat) (x1 : Nat) (x2 : Nat) (x3 : Int32) (x4 : Int32) (x5 : Int32) : Option (Mem) :=
  gd (oB shC x1 4) <| if (gI M x1 4) ≤ x5 then some M else gd (oB shC x2 2) <| bd (gR M x2 1) fun r3 => gd (aB shC r3 9 x5) <| bd (gR M r3 (x5 : Int32).toNatClampNeg) fun r5 => gd (aB shC r5 0 x4) <| gd (oB shC x0 5) <| bd (gR M x0 3) fun r8 => gd (aB shC r8 0 x5) <| if (gI M r8 (x5 : Int32).toNatClampNeg) = 1000000 then k3 M (x0) (x1) (x2) (x3) (x4) ((x5 + 1)) else if (gI M r5 (x4 : Int32).toNatClampNeg) = x3 then nx (sI M x0 0 x4) fun M16 => bd (f_X20_min M16 (gI M16 x0 1) (gI M16 r8 (x5 : Int32).toNatClampNeg)) fun v17 => nx (sI M16 x0 1 v17) fun M18 => k3 M18 (x0) (x1) (x2) (x3) (x4) ((x5 + 1)) else bd (f_X4_buyersAt M x1 (gI M r5 (x4 : Int32).toNatClampNeg)) fun v10 => if v10 = 0 then k3 M (x0) (x1) (x2) (x3) (x4) ((x5 + 1)) else bd (gR M x0 2) fun r11 => gd (aB shC r11 0 (gI M r5 (x4 : Int32).toNatClampNeg)) <| nx ((gI M r11 ((gI M r5 (x4 : Int32).toNatClampNeg) : Int32).toNatClampNeg)) fun v13 => bd (f_X20_min M v13 (gI M r8 (x5 : Int32).toNatClampNeg)) fun v14 => nx (sI M r11 ((gI M r5 (x4 : Int32).toNatClampNeg) : Int32).toNatClampNeg v14) fun M15 => k3 M15 (x0) (x1) (x2) (x3) (x4) ((x5 + 1))
def f_X5_unload_3  : Nat → Mem → Nat → Nat → Nat → Int32 → Int32 → Int32 → Option (Mem)
  | 0 => fun _ _ _ _ _ _ _ => none
  | n + 1 => fun y0 y1 y2 y3 y4 y5 y6 => s_X5_unload_3  (f_X5_unload_3  n) y0 y1 y2 y3 y4 y5 y6
def f_X5_unload (M : Mem) (a0 : Nat) (a1 : Nat) (a2 : Nat) (a3 : Int32) (a4 : Int32) : Option (Mem) :=
  f_X5_unload_3 FU M (a0) (a1) (a2) (a3) (a4) (0)
theorem t_s_X5_unload_3 {X : Cx} {res : Mem} {k3 : Mem → Nat → Nat → Nat → Int32 → Int32 → Int32 → Option (Mem)} (hX : OkX X cX5_unload RX5 1 23) (hn : Fit X shC nC) (hR : RetV X shC nC res) (hk3 : ∀ M x0 x1 x2 x3 x4 x5, k3 M x0 x1 x2 x3 x4 x5 = some res → GoN X shC nC 0 0 M 3 [some (.ref (X.B + x0)), some (.ref (X.B + x1)), some (.ref (X.B + x2)), some (.int (x3)), some (.int (x4)), some (.int (x5)), none] []) (M : Mem) (x0 : Nat) (x1 : Nat) (x2 : Nat) (x3 : Int32) (x4 : Int32) (x5 : Int32) (hf : s_X5_unload_3 k3 M x0 x1 x2 x3 x4 x5 = some res) : GoN X shC nC 0 0 M 3 [some (.ref (X.B + x0)), some (.ref (X.B + x1)), some (.ref (X.B + x2)), some (.int (x3)), some (.int (x4)), some (.int (x5)), none] [] := by
  refine r_iload hX e_X5_unload_3 rfl ?_
  refine r_aload_n (i := 1) hX e_X5_unload_5 rfl rfl ?_
  obtain ⟨g1, hf⟩ := gd_s hf
  refine r_getI hX hn e_X5_unload_6 fl_5_45 rfl g1 ?_
  refine r_icmp_ge hX e_X5_unload_9 (fun hc => ?_) (fun hc => ?_)
  · have hf := ite_t hf hc
    exact r_ret hX hR e_X5_unload_111 hf
  · have hf := ite_f hf hc
    refine r_aload_n (i := 2) hX e_X5_unload_12 rfl rfl ?_
    obtain ⟨g2, hf⟩ := gd_s hf
    obtain ⟨r3, hr3, hf⟩ := bd_s hf
    refine r_getR hX hn e_X5_unload_13 fl_5_48 rfl g2 hr3 ?_
    refine r_iload hX e_X5_unload_16 rfl ?_
    obtain ⟨g4, hf⟩ := gd_s hf
    obtain ⟨r5, hr5, hf⟩ := bd_s hf
    refine r_aald hX hn e_X5_unload_18 g4 (Nat.le_of_ble_eq_true rfl) rfl rfl rfl hr5 ?_
    refine r_iload hX e_X5_unload_19 rfl ?_
    obtain ⟨g6, hf⟩ := gd_s hf
    refine r_iald hX hn e_X5_unload_21 g6 ?_
    refine r_istore hX e_X5_unload_22 (Nat.le_of_ble_eq_true rfl) rfl ?_
    refine r_aload_n (i := 0) hX e_X5_unload_24 rfl rfl ?_
    obtain ⟨g7, hf⟩ := gd_s hf
    obtain ⟨r8, hr8, hf⟩ := bd_s hf
    refine r_getR hX hn e_X5_unload_25 fl_5_15 rfl g7 hr8 ?_
    refine r_iload hX e_X5_unload_28 rfl ?_
    obtain ⟨g9, hf⟩ := gd_s hf
    refine r_iald hX hn e_X5_unload_30 g9 ?_
    refine r_ldc hX e_X5_unload_31 wk_937 ?_
    refine r_icmp_ne hX e_X5_unload_33 (fun hc => ?_) (fun hc => ?_)
    · have hf := ite_f hf hc
      refine r_iload hX e_X5_unload_39 rfl ?_
      refine r_iload_n (i := 3) hX e_X5_unload_41 rfl rfl ?_
      refine r_icmp_ne hX e_X5_unload_42 (fun hc => ?_) (fun hc => ?_)
      · have hf := ite_f hf hc
        refine r_aload_n (i := 1) hX e_X5_unload_72 rfl rfl ?_
        refine r_iload hX e_X5_unload_73 rfl ?_
        obtain ⟨v10, hv10, hf⟩ := bd_s hf
        refine r_cvi (As := fun K B => [.int ((gI M r5 (x4 : Int32).toNatClampNeg))]) hX hn (t_X4_buyersAt hv10) e_X5_unload_75 cw_X4_buyersAt cv_X4_buyersAt lk_5_60 ⟨Nat.le_of_ble_eq_true rfl, Nat.le_of_ble_eq_true rfl⟩ (ci := 4) rfl rfl (Nat.le_of_ble_eq_true rfl) g1 rfl rfl (Nat.le_of_ble_eq_true rfl) ⟨Nat.zero_le _, Nat.zero_le _⟩ ?_
        refine r_if_eq hX e_X5_unload_78 (fun hc => ?_) (fun hc => ?_)
        · have hf := ite_t hf hc
          refine r_iinc (v := x5 + 1) hX e_X5_unload_105 rfl (ii_s ic_1) (Nat.le_of_ble_eq_true rfl) rfl ?_
          refine r_goto hX e_X5_unload_108 ?_
          exact GoN.weak (hk3 M (x0) (x1) (x2) (x3) (x4) ((x5 + 1)) hf) rfl (sb_s (sb_s (sb_s (sb_s (sb_s (sb_s (sb_n (sb_z _))))))))
        · have hf := ite_f hf hc
          refine r_aload_n (i := 0) hX e_X5_unload_81 rfl rfl ?_
          obtain ⟨r11, hr11, hf⟩ := bd_s hf
          refine r_getR hX hn e_X5_unload_82 fl_5_9 rfl g7 hr11 ?_
          refine r_iload hX e_X5_unload_85 rfl ?_
          refine r_aload_n (i := 0) hX e_X5_unload_87 rfl rfl ?_
          refine r_getR hX hn e_X5_unload_88 fl_5_9 rfl g7 hr11 ?_
          refine r_iload hX e_X5_unload_91 rfl ?_
          obtain ⟨g12, hf⟩ := gd_s hf
          refine r_iald hX hn e_X5_unload_93 g12 ?_
          obtain ⟨v13, hv13, hf⟩ := nx_s hf
          refine top_i hv13 ?_
          refine r_aload_n (i := 0) hX e_X5_unload_94 rfl rfl ?_
          refine r_getR hX hn e_X5_unload_95 fl_5_15 rfl g7 hr8 ?_
          refine r_iload hX e_X5_unload_98 rfl ?_
          refine r_iald hX hn e_X5_unload_100 g9 ?_
          obtain ⟨v14, hv14, hf⟩ := bd_s hf
          refine r_csi (As := fun K B => [.int (v13), .int ((gI M r8 (x5 : Int32).toNatClampNeg))]) hX hn (t_X20_min hv14) e_X5_unload_101 cw_X20_min cv_X20_min lk_5_54 ⟨Nat.le_of_ble_eq_true rfl, Nat.le_of_ble_eq_true rfl⟩ rfl rfl (Nat.le_of_ble_eq_true rfl) ⟨Nat.zero_le _, Nat.zero_le _⟩ ?_
          obtain ⟨M15, hM15, hf⟩ := nx_s hf
          refine r_iast hX hn hM15 e_X5_unload_104 g12 ?_
          refine r_iinc (v := x5 + 1) hX e_X5_unload_105 rfl (ii_s ic_1) (Nat.le_of_ble_eq_true rfl) rfl ?_
          refine r_goto hX e_X5_unload_108 ?_
          exact GoN.weak (hk3 M15 (x0) (x1) (x2) (x3) (x4) ((x5 + 1)) hf) rfl (sb_s (sb_s (sb_s (sb_s (sb_s (sb_s (sb_n (sb_z _))))))))
      · have hf := ite_t hf hc
        refine r_aload_n (i := 0) hX e_X5_unload_45 rfl rfl ?_
        refine r_iload hX e_X5_unload_46 rfl ?_
        obtain ⟨M16, hM16, hf⟩ := nx_s hf
        refine r_putI hX hn hM16 e_X5_unload_48 fl_5_18 fp_5_0 rfl g7 ?_
        refine r_aload_n (i := 0) hX e_X5_unload_51 rfl rfl ?_
        refine r_aload_n (i := 0) hX e_X5_unload_52 rfl rfl ?_
        refine r_getI hX hn e_X5_unload_53 fl_5_23 rfl g7 ?_
        refine r_aload_n (i := 0) hX e_X5_unload_56 rfl rfl ?_
        refine r_getR hX hn e_X5_unload_57 fl_5_15 rfl g7 (gR_kI hM16 hr8) ?_
        refine r_iload hX e_X5_unload_60 rfl ?_
        refine r_iald hX hn e_X5_unload_62 g9 ?_
        obtain ⟨v17, hv17, hf⟩ := bd_s hf
        refine r_csi (As := fun K B => [.int ((gI M16 x0 1)), .int ((gI M16 r8 (x5 : Int32).toNatClampNeg))]) hX hn (t_X20_min hv17) e_X5_unload_63 cw_X20_min cv_X20_min lk_5_54 ⟨Nat.le_of_ble_eq_true rfl, Nat.le_of_ble_eq_true rfl⟩ rfl rfl (Nat.le_of_ble_eq_true rfl) ⟨Nat.zero_le _, Nat.zero_le _⟩ ?_
        obtain ⟨M18, hM18, hf⟩ := nx_s hf
        refine r_putI hX hn hM18 e_X5_unload_66 fl_5_23 fp_5_1 rfl g7 ?_
        refine r_goto hX e_X5_unload_69 ?_
        refine r_iinc (v := x5 + 1) hX e_X5_unload_105 rfl (ii_s ic_1) (Nat.le_of_ble_eq_true rfl) rfl ?_
        refine r_goto hX e_X5_unload_108 ?_
        exact GoN.weak (hk3 M18 (x0) (x1) (x2) (x3) (x4) ((x5 + 1)) hf) rfl (sb_s (sb_s (sb_s (sb_s (sb_s (sb_s (sb_n (sb_z _))))))))
    · have hf := ite_t hf hc
      refine r_goto hX e_X5_unload_36 ?_
      refine r_iinc (v := x5 + 1) hX e_X5_unload_105 rfl (ii_s ic_1) (Nat.le_of_ble_eq_true rfl) rfl ?_
      refine r_goto hX e_X5_unload_108 ?_
      exact GoN.weak (hk3 M (x0) (x1) (x2) (x3) (x4) ((x5 + 1)) hf) rfl (sb_s (sb_s (sb_s (sb_s (sb_s (sb_s (sb_n (sb_z _))))))))
theorem t_X5_unload_3 {X : Cx} {res : Mem}  (hX : OkX X cX5_unload RX5 1 23) (hn : Fit X shC nC) (hR : RetV X shC nC res)  : ∀ (n : Nat) (M : Mem) (x0 : Nat) (x1 : Nat) (x2 : Nat) (x3 : Int32) (x4 : Int32) (x5 : Int32),  f_X5_unload_3  n M x0 x1 x2 x3 x4 x5 = some res → GoN X shC nC 0 0 M 3 [some (.ref (X.B + x0)), some (.ref (X.B + x1)), some (.ref (X.B + x2)), some (.int (x3)), some (.int (x4)), some (.int (x5)), none] [] := by
  intro n
  induction n with
  | zero => intro M x0 x1 x2 x3 x4 x5 hf; cases hf
  | succ n ih => intro M x0 x1 x2 x3 x4 x5 hf; exact t_s_X5_unload_3 hX hn hR  ih M x0 x1 x2 x3 x4 x5 hf
theorem t_X5_unload {l : Launch} {M : Mem} {a0 a1 a2 : Nat} {a3 a4 : Int32} {res : Mem} (hf : f_X5_unload M a0 a1 a2 a3 a4 = some res) : Cv l yX5_unload cX5_unload 7 none 1 23 shC nC (fun K B => [.ref (B + a0), .ref (B + a1), .ref (B + a2), .int a3, .int a4]) M res := by
  refine met_v (own := RX5) (lo := fun K B => [some (.ref (B + a0)), some (.ref (B + a1)), some (.ref (B + a2)), some (.int a3), some (.int a4), none, none]) (by decide +kernel) rfl shC_ok (fun _ _ => rfl) (fun _ _ => rfl) (fun _ _ => Nat.le_of_ble_eq_true rfl) (fun X hX hn hlx hR => ?_)
  refine r_iconst hX e_X5_unload_0 ic_0 ?_
  refine r_istore hX e_X5_unload_1 (Nat.le_of_ble_eq_true rfl) rfl ?_
  exact GoN.weak (t_X5_unload_3 hX hn hR FU M (a0) (a1) (a2) (a3) (a4) (0) hf) rfl (sb_s (sb_s (sb_s (sb_s (sb_s (sb_s (sb_n (sb_z _))))))))
def s_X5_load_3 (k3 : Mem → Nat → Nat → Nat → Int32 → Int32 → Option (Mem)) (M : Mem) (x0 : Nat) (x1 : Nat) (x2 : Nat) (x3 : Int32) (x4 : Int32) : Option (Mem) :=
  gd (oB shC x1 4) <| if (gI M x1 4) ≤ x4 then some M else gd (oB shC x2 2) <| bd (gR M x2 1) fun r3 => gd (aB shC r3 9 x4) <| bd (gR M r3 (x4 : Int32).toNatClampNeg) fun r5 => gd (aB shC r5 0 x3) <| gd (oB shC x0 5) <| bd (gR M x0 2) fun r8 => gd (aB shC r8 0 (gI M r5 (x3 : Int32).toNatClampNeg)) <| nx ((gI M r8 ((gI M r5 (x3 : Int32).toNatClampNeg) : Int32).toNatClampNeg)) fun v10 => if 1000000 ≤ v10 then k3 M (x0) (x1) (x2) (x3) ((x4 + 1)) else bd (gR M x0 3) fun r11 => gd (aB shC r11 0 x4) <| nx ((gI M r8 ((gI M r5 (x3 : Int32).toNatClampNeg) : Int32).toNatClampNeg)) fun v13 => bd (f_X20_min M (gI M r11 (x4 : Int32).toNatClampNeg) (v13 + 1)) fun v14 => nx (sI M r11 (x4 : Int32).toNatClampNeg v14) fun M15 => k3 M15 (x0) (x1) (x2) (x3) ((x4 + 1))
def f_X5_load_3  : Nat → Mem → Nat → Nat → Nat → Int32 → Int32 → Option (Mem)
  | 0 => fun _ _ _ _ _ _ => none
  | n + 1 => fun y0 y1 y2 y3 y4 y5 => s_X5_load_3  (f_X5_load_3  n) y0 y1 y2 y3 y4 y5
def f_X5_load (M : Mem) (a0 : Nat) (a1 : Nat) (a2 : Nat) (a3 : Int32) : Option (Mem) :=
  f_X5_load_3 FU M (a0) (a1) (a2) (a3) (0)
theorem t_s_X5_load_3 {X : Cx} {res : Mem} {k3 : Mem → Nat → Nat → Nat → Int32 → Int32 → Option (Mem)} (hX : OkX X cX5_load RX5 1 21) (hn : Fit X shC nC) (hR : RetV X shC nC res) (hk3 : ∀ M x0 x1 x2 x3 x4, k3 M x0 x1 x2 x3 x4 = some res → GoN X shC nC 0 0 M 3 [some (.ref (X.B + x0)), some (.ref (X.B + x1)), some (.ref (X.B + x2)), some (.int (x3)), some (.int (x4)), none] []) (M : Mem) (x0 : Nat) (x1 : Nat) (x2 : Nat) (x3 : Int32) (x4 : Int32) (hf : s_X5_load_3 k3 M x0 x1 x2 x3 x4 = some res) : GoN X shC nC 0 0 M 3 [some (.ref (X.B + x0)), some (.ref (X.B + x1)), some (.ref (X.B + x2)), some (.int (x3)), some (.int (x4)), none] [] := by
  refine r_iload hX e_X5_load_3 rfl ?_
  refine r_aload_n (i := 1) hX e_X5_load_5 rfl rfl ?_
  obtain ⟨g1, hf⟩ := gd_s hf
  refine r_getI hX hn e_X5_load_6 fl_5_45 rfl g1 ?_
  refine r_icmp_ge hX e_X5_load_9 (fun hc => ?_) (fun hc => ?_)
  · have hf := ite_t hf hc
    exact r_ret hX hR e_X5_load_67 hf
  · have hf := ite_f hf hc
    refine r_aload_n (i := 2) hX e_X5_load_12 rfl rfl ?_
    obtain ⟨g2, hf⟩ := gd_s hf
    obtain ⟨r3, hr3, hf⟩ := bd_s hf
    refine r_getR hX hn e_X5_load_13 fl_5_48 rfl g2 hr3 ?_
    refine r_iload hX e_X5_load_16 rfl ?_
    obtain ⟨g4, hf⟩ := gd_s hf
    obtain ⟨r5, hr5, hf⟩ := bd_s hf
    refine r_aald hX hn e_X5_load_18 g4 (Nat.le_of_ble_eq_true rfl) rfl rfl rfl hr5 ?_
    refine r_iload_n (i := 3) hX e_X5_load_19 rfl rfl ?_
    obtain ⟨g6, hf⟩ := gd_s hf
    refine r_iald hX hn e_X5_load_20 g6 ?_
    refine r_istore hX e_X5_load_21 (Nat.le_of_ble_eq_true rfl) rfl ?_
    refine r_aload_n (i := 0) hX e_X5_load_23 rfl rfl ?_
    obtain ⟨g7, hf⟩ := gd_s hf
    obtain ⟨r8, hr8, hf⟩ := bd_s hf
    refine r_getR hX hn e_X5_load_24 fl_5_9 rfl g7 hr8 ?_
    refine r_iload hX e_X5_load_27 rfl ?_
    obtain ⟨g9, hf⟩ := gd_s hf
    refine r_iald hX hn e_X5_load_29 g9 ?_
    obtain ⟨v10, hv10, hf⟩ := nx_s hf
    refine top_i hv10 ?_
    refine r_ldc hX e_X5_load_30 wk_937 ?_
    refine r_icmp_ge hX e_X5_load_32 (fun hc => ?_) (fun hc => ?_)
    · have hf := ite_t hf hc
      refine r_iinc (v := x4 + 1) hX e_X5_load_61 rfl (ii_s ic_1) (Nat.le_of_ble_eq_true rfl) rfl ?_
      refine r_goto hX e_X5_load_64 ?_
      exact GoN.weak (hk3 M (x0) (x1) (x2) (x3) ((x4 + 1)) hf) rfl (sb_s (sb_s (sb_s (sb_s (sb_s (sb_n (sb_z _)))))))
    · have hf := ite_f hf hc
      refine r_aload_n (i := 0) hX e_X5_load_35 rfl rfl ?_
      obtain ⟨r11, hr11, hf⟩ := bd_s hf
      refine r_getR hX hn e_X5_load_36 fl_5_15 rfl g7 hr11 ?_
      refine r_iload hX e_X5_load_39 rfl ?_
      refine r_aload_n (i := 0) hX e_X5_load_41 rfl rfl ?_
      refine r_getR hX hn e_X5_load_42 fl_5_15 rfl g7 hr11 ?_
      refine r_iload hX e_X5_load_45 rfl ?_
      obtain ⟨g12, hf⟩ := gd_s hf
      refine r_iald hX hn e_X5_load_47 g12 ?_
      refine r_aload_n (i := 0) hX e_X5_load_48 rfl rfl ?_
      refine r_getR hX hn e_X5_load_49 fl_5_9 rfl g7 hr8 ?_
      refine r_iload hX e_X5_load_52 rfl ?_
      refine r_iald hX hn e_X5_load_54 g9 ?_
      obtain ⟨v13, hv13, hf⟩ := nx_s hf
      refine top_i hv13 ?_
      refine r_iconst hX e_X5_load_55 ic_1 ?_
      refine r_iadd hX e_X5_load_56 ?_
      obtain ⟨v14, hv14, hf⟩ := bd_s hf
      refine r_csi (As := fun K B => [.int ((gI M r11 (x4 : Int32).toNatClampNeg)), .int ((v13 + 1))]) hX hn (t_X20_min hv14) e_X5_load_57 cw_X20_min cv_X20_min lk_5_54 ⟨Nat.le_of_ble_eq_true rfl, Nat.le_of_ble_eq_true rfl⟩ rfl rfl (Nat.le_of_ble_eq_true rfl) ⟨Nat.zero_le _, Nat.zero_le _⟩ ?_
      obtain ⟨M15, hM15, hf⟩ := nx_s hf
      refine r_iast hX hn hM15 e_X5_load_60 g12 ?_
      refine r_iinc (v := x4 + 1) hX e_X5_load_61 rfl (ii_s ic_1) (Nat.le_of_ble_eq_true rfl) rfl ?_
      refine r_goto hX e_X5_load_64 ?_
      exact GoN.weak (hk3 M15 (x0) (x1) (x2) (x3) ((x4 + 1)) hf) rfl (sb_s (sb_s (sb_s (sb_s (sb_s (sb_n (sb_z _)))))))
theorem t_X5_load_3 {X : Cx} {res : Mem}  (hX : OkX X cX5_load RX5 1 21) (hn : Fit X shC nC) (hR : RetV X shC nC res)  : ∀ (n : Nat) (M : Mem) (x0 : Nat) (x1 : Nat) (x2 : Nat) (x3 : Int32) (x4 : Int32),  f_X5_load_3  n M x0 x1 x2 x3 x4 = some res → GoN X shC nC 0 0 M 3 [some (.ref (X.B + x0)), some (.ref (X.B + x1)), some (.ref (X.B + x2)), some (.int (x3)), some (.int (x4)), none] [] := by
  intro n
  induction n with
  | zero => intro M x0 x1 x2 x3 x4 hf; cases hf
  | succ n ih => intro M x0 x1 x2 x3 x4 hf; exact t_s_X5_load_3 hX hn hR  ih M x0 x1 x2 x3 x4 hf
theorem t_X5_load {l : Launch} {M : Mem} {a0 a1 a2 : Nat} {a3 : Int32} {res : Mem} (hf : f_X5_load M a0 a1 a2 a3 = some res) : Cv l yX5_load cX5_load 6 none 1 21 shC nC (fun K B => [.ref (B + a0), .ref (B + a1), .ref (B + a2), .int a3]) M res := by
  refine met_v (own := RX5) (lo := fun K B => [some (.ref (B + a0)), some (.ref (B + a1)), some (.ref (B + a2)), some (.int a3), none, none]) (by decide +kernel) rfl shC_ok (fun _ _ => rfl) (fun _ _ => rfl) (fun _ _ => Nat.le_of_ble_eq_true rfl) (fun X hX hn hlx hR => ?_)
  refine r_iconst hX e_X5_load_0 ic_0 ?_
  refine r_istore hX e_X5_load_1 (Nat.le_of_ble_eq_true rfl) rfl ?_
  exact GoN.weak (t_X5_load_3 hX hn hR FU M (a0) (a1) (a2) (a3) (0) hf) rfl (sb_s (sb_s (sb_s (sb_s (sb_s (sb_n (sb_z _)))))))
def f_X5_bring_81  (M : Mem) (x0 : Nat) : Option (Mem) :=
  gd (oB shC x0 5) <| if (gI M x0 0) = (-1) then nx (sI M x0 1 (-1)) fun M2 => some M2 else some M
def s_X5_bring_40 (k40 : Mem → Nat → Nat → Nat → Int32 → Int32 → Option (Mem)) (M : Mem) (x0 : Nat) (x1 : Nat) (x2 : Nat) (x4 : Int32) (x6 : Int32) : Option (Mem) :=
  gd (oB shC x1 4) <| if (gI M x1 1) ≤ x6 then f_X5_bring_81 M (x0) else gd (oB shC x0 5) <| if (gI M x0 0) = (-1) then bd (f_X5_unload M x0 x1 x2 x4 x6) fun u3 => bd (f_X5_load u3 x0 x1 x2 x6) fun u4 => k40 u4 (x0) (x1) (x2) (x4) ((x6 + 1)) else f_X5_bring_81 M (x0)
def f_X5_bring_40  : Nat → Mem → Nat → Nat → Nat → Int32 → Int32 → Option (Mem)
  | 0 => fun _ _ _ _ _ _ => none
  | n + 1 => fun y0 y1 y2 y3 y4 y5 => s_X5_bring_40  (f_X5_bring_40  n) y0 y1 y2 y3 y4 y5
def f_X5_bring (M : Mem) (a0 : Nat) (a1 : Nat) (a2 : Nat) (a3 : Int32) (a4 : Int32) (a5 : Int32) : Option (Mem) :=
  gd (oB shC a0 5) <| nx (sI M a0 0 (-1)) fun M2 => nx (sI M2 a0 1 1000000) fun M3 => bd (gR M3 a0 2) fun r4 => bd (f_X21_fillI M3 r4 1000000) fun u5 => bd (gR u5 a0 3) fun r6 => bd (f_X21_fillI u5 r6 1000000) fun u7 => bd (gR u7 a0 2) fun r8 => gd (aB shC r8 0 a3) <| nx (sI u7 r8 (a3 : Int32).toNatClampNeg 0) fun M10 => f_X5_bring_40 FU M10 (a0) (a1) (a2) (a4) (a5)
theorem t_X5_bring_81 {X : Cx} {res : Mem}  (hX : OkX X cX5_bring RX5 2 49) (hn : Fit X shC nC) (hR : RetV X shC nC res)  (M : Mem) (x0 : Nat) (hf : f_X5_bring_81  M x0 = some res) : GoN X shC nC 0 0 M 81 [some (.ref (X.B + x0)), none, none, none, none, none, none] [] := by
  refine r_aload_n (i := 0) hX e_X5_bring_81 rfl rfl ?_
  obtain ⟨g1, hf⟩ := gd_s hf
  refine r_getI hX hn e_X5_bring_82 fl_5_18 rfl g1 ?_
  refine r_iconst hX e_X5_bring_85 ic_m1 ?_
  refine r_icmp_ne hX e_X5_bring_86 (fun hc => ?_) (fun hc => ?_)
  · have hf := ite_f hf hc
    exact r_ret hX hR e_X5_bring_94 hf
  · have hf := ite_t hf hc
    refine r_aload_n (i := 0) hX e_X5_bring_89 rfl rfl ?_
    refine r_iconst hX e_X5_bring_90 ic_m1 ?_
    obtain ⟨M2, hM2, hf⟩ := nx_s hf
    refine r_putI hX hn hM2 e_X5_bring_91 fl_5_23 fp_5_1 rfl g1 ?_
    exact r_ret hX hR e_X5_bring_94 hf
theorem t_s_X5_bring_40 {X : Cx} {res : Mem} {k40 : Mem → Nat → Nat → Nat → Int32 → Int32 → Option (Mem)} (hX : OkX X cX5_bring RX5 2 49) (hn : Fit X shC nC) (hR : RetV X shC nC res) (hk40 : ∀ M x0 x1 x2 x4 x6, k40 M x0 x1 x2 x4 x6 = some res → GoN X shC nC 0 0 M 40 [some (.ref (X.B + x0)), some (.ref (X.B + x1)), some (.ref (X.B + x2)), none, some (.int (x4)), none, some (.int (x6))] []) (M : Mem) (x0 : Nat) (x1 : Nat) (x2 : Nat) (x4 : Int32) (x6 : Int32) (hf : s_X5_bring_40 k40 M x0 x1 x2 x4 x6 = some res) : GoN X shC nC 0 0 M 40 [some (.ref (X.B + x0)), some (.ref (X.B + x1)), some (.ref (X.B + x2)), none, some (.int (x4)), none, some (.int (x6))] [] := by
  refine r_iload hX e_X5_bring_40 rfl ?_
  refine r_aload_n (i := 1) hX e_X5_bring_42 rfl rfl ?_
  obtain ⟨g1, hf⟩ := gd_s hf
  refine r_getI hX hn e_X5_bring_43 fl_5_32 rfl g1 ?_
  refine r_icmp_ge hX e_X5_bring_46 (fun hc => ?_) (fun hc => ?_)
  · have hf := ite_t hf hc
    exact GoN.weak (t_X5_bring_81 hX hn hR M (x0) hf) rfl (sb_s (sb_n (sb_n (sb_n (sb_n (sb_n (sb_n (sb_z _))))))))
  · have hf := ite_f hf hc
    refine r_aload_n (i := 0) hX e_X5_bring_49 rfl rfl ?_
    obtain ⟨g2, hf⟩ := gd_s hf
    refine r_getI hX hn e_X5_bring_50 fl_5_18 rfl g2 ?_
    refine r_iconst hX e_X5_bring_53 ic_m1 ?_
    refine r_icmp_ne hX e_X5_bring_54 (fun hc => ?_) (fun hc => ?_)
    · have hf := ite_f hf hc
      exact GoN.weak (t_X5_bring_81 hX hn hR M (x0) hf) rfl (sb_s (sb_n (sb_n (sb_n (sb_n (sb_n (sb_n (sb_z _))))))))
    · have hf := ite_t hf hc
      refine r_aload_n (i := 0) hX e_X5_bring_57 rfl rfl ?_
      refine r_aload_n (i := 1) hX e_X5_bring_58 rfl rfl ?_
      refine r_aload_n (i := 2) hX e_X5_bring_59 rfl rfl ?_
      refine r_iload hX e_X5_bring_60 rfl ?_
      refine r_iload hX e_X5_bring_62 rfl ?_
      obtain ⟨u3, hu3, hf⟩ := bd_s hf
      refine r_cvv (As := fun K B => [.ref (B + x1), .ref (B + x2), .int (x4), .int (x6)]) hX hn (t_X5_unload hu3) e_X5_bring_64 cw_X5_unload cv_X5_unload lk_5_37 ⟨Nat.le_of_ble_eq_true rfl, Nat.le_of_ble_eq_true rfl⟩ (ci := 5) rfl rfl (Nat.le_of_ble_eq_true rfl) g2 rfl rfl (Nat.le_of_ble_eq_true rfl) ⟨Nat.zero_le _, Nat.zero_le _⟩ ?_
      refine r_aload_n (i := 0) hX e_X5_bring_67 rfl rfl ?_
      refine r_aload_n (i := 1) hX e_X5_bring_68 rfl rfl ?_
      refine r_aload_n (i := 2) hX e_X5_bring_69 rfl rfl ?_
      refine r_iload hX e_X5_bring_70 rfl ?_
      obtain ⟨u4, hu4, hf⟩ := bd_s hf
      refine r_cvv (As := fun K B => [.ref (B + x1), .ref (B + x2), .int (x6)]) hX hn (t_X5_load hu4) e_X5_bring_72 cw_X5_load cv_X5_load lk_5_41 ⟨Nat.le_of_ble_eq_true rfl, Nat.le_of_ble_eq_true rfl⟩ (ci := 5) rfl rfl (Nat.le_of_ble_eq_true rfl) g2 rfl rfl (Nat.le_of_ble_eq_true rfl) ⟨Nat.zero_le _, Nat.zero_le _⟩ ?_
      refine r_iinc (v := x6 + 1) hX e_X5_bring_75 rfl (ii_s ic_1) (Nat.le_of_ble_eq_true rfl) rfl ?_
      refine r_goto hX e_X5_bring_78 ?_
      exact GoN.weak (hk40 u4 (x0) (x1) (x2) (x4) ((x6 + 1)) hf) rfl (sb_s (sb_s (sb_s (sb_n (sb_s (sb_n (sb_s (sb_z _))))))))
theorem t_X5_bring_40 {X : Cx} {res : Mem}  (hX : OkX X cX5_bring RX5 2 49) (hn : Fit X shC nC) (hR : RetV X shC nC res)  : ∀ (n : Nat) (M : Mem) (x0 : Nat) (x1 : Nat) (x2 : Nat) (x4 : Int32) (x6 : Int32),  f_X5_bring_40  n M x0 x1 x2 x4 x6 = some res → GoN X shC nC 0 0 M 40 [some (.ref (X.B + x0)), some (.ref (X.B + x1)), some (.ref (X.B + x2)), none, some (.int (x4)), none, some (.int (x6))] [] := by
  intro n
  induction n with
  | zero => intro M x0 x1 x2 x4 x6 hf; cases hf
  | succ n ih => intro M x0 x1 x2 x4 x6 hf; exact t_s_X5_bring_40 hX hn hR  ih M x0 x1 x2 x4 x6 hf
theorem t_X5_bring {l : Launch} {M : Mem} {a0 a1 a2 : Nat} {a3 a4 a5 : Int32} {res : Mem} (hf : f_X5_bring M a0 a1 a2 a3 a4 a5 = some res) : Cv l yX5_bring cX5_bring 7 none 2 49 shC nC (fun K B => [.ref (B + a0), .ref (B + a1), .ref (B + a2), .int a3, .int a4, .int a5]) M res := by
  refine met_v (own := RX5) (lo := fun K B => [some (.ref (B + a0)), some (.ref (B + a1)), some (.ref (B + a2)), some (.int a3), some (.int a4), some (.int a5), none]) (by decide +kernel) rfl shC_ok (fun _ _ => rfl) (fun _ _ => rfl) (fun _ _ => Nat.le_of_ble_eq_true rfl) (fun X hX hn hlx hR => ?_)
  refine r_aload_n (i := 0) hX e_X5_bring_0 rfl rfl ?_
  refine r_iconst hX e_X5_bring_1 ic_m1 ?_
  obtain ⟨g1, hf⟩ := gd_s hf
  obtain ⟨M2, hM2, hf⟩ := nx_s hf
  refine r_putI hX hn hM2 e_X5_bring_2 fl_5_18 fp_5_0 rfl g1 ?_
  refine r_aload_n (i := 0) hX e_X5_bring_5 rfl rfl ?_
  refine r_ldc hX e_X5_bring_6 wk_937 ?_
  obtain ⟨M3, hM3, hf⟩ := nx_s hf
  refine r_putI hX hn hM3 e_X5_bring_8 fl_5_23 fp_5_1 rfl g1 ?_
  refine r_aload_n (i := 0) hX e_X5_bring_11 rfl rfl ?_
  obtain ⟨r4, hr4, hf⟩ := bd_s hf
  refine r_getR hX hn e_X5_bring_12 fl_5_9 rfl g1 hr4 ?_
  refine r_ldc hX e_X5_bring_15 wk_937 ?_
  obtain ⟨u5, hu5, hf⟩ := bd_s hf
  refine r_csv (As := fun K B => [.ref (B + r4), .int (1000000)]) hX hn (t_X21_fillI hu5) e_X5_bring_17 cw_X21_fillI cv_X21_fillI lk_5_26 ⟨Nat.le_of_ble_eq_true rfl, Nat.le_of_ble_eq_true rfl⟩ rfl rfl (Nat.le_of_ble_eq_true rfl) ⟨Nat.zero_le _, Nat.zero_le _⟩ ?_
  refine r_aload_n (i := 0) hX e_X5_bring_20 rfl rfl ?_
  obtain ⟨r6, hr6, hf⟩ := bd_s hf
  refine r_getR hX hn e_X5_bring_21 fl_5_15 rfl g1 hr6 ?_
  refine r_ldc hX e_X5_bring_24 wk_937 ?_
  obtain ⟨u7, hu7, hf⟩ := bd_s hf
  refine r_csv (As := fun K B => [.ref (B + r6), .int (1000000)]) hX hn (t_X21_fillI hu7) e_X5_bring_26 cw_X21_fillI cv_X21_fillI lk_5_26 ⟨Nat.le_of_ble_eq_true rfl, Nat.le_of_ble_eq_true rfl⟩ rfl rfl (Nat.le_of_ble_eq_true rfl) ⟨Nat.zero_le _, Nat.zero_le _⟩ ?_
  refine r_aload_n (i := 0) hX e_X5_bring_29 rfl rfl ?_
  obtain ⟨r8, hr8, hf⟩ := bd_s hf
  refine r_getR hX hn e_X5_bring_30 fl_5_9 rfl g1 hr8 ?_
  refine r_iload_n (i := 3) hX e_X5_bring_33 rfl rfl ?_
  refine r_iconst hX e_X5_bring_34 ic_0 ?_
  obtain ⟨g9, hf⟩ := gd_s hf
  obtain ⟨M10, hM10, hf⟩ := nx_s hf
  refine r_iast hX hn hM10 e_X5_bring_35 g9 ?_
  refine r_iload hX e_X5_bring_36 rfl ?_
  refine r_istore hX e_X5_bring_38 (Nat.le_of_ble_eq_true rfl) rfl ?_
  exact GoN.weak (t_X5_bring_40 hX hn hR FU M10 (a0) (a1) (a2) (a4) (a5) hf) rfl (sb_s (sb_s (sb_s (sb_n (sb_s (sb_n (sb_s (sb_z _))))))))
def s_X6_add_3 (k3 : Mem → Nat → Int32 → Int32 → Option (Mem)) (M : Mem) (x0 : Nat) (x1 : Int32) (x2 : Int32) : Option (Mem) :=
  if x2 < 0 then some M else gd (oB shC x0 6) <| if 2000 ≤ (gI M x0 1) then some M else bd (gR M x0 0) fun r2 => gd (aB shC r2 3 (gI M x0 1)) <| nx (sI M r2 ((gI M x0 1) : Int32).toNatClampNeg (vp_nar .byte (((x1 >>> (x2 &&& 31)) : Int32).toInt8.toInt32))) fun M4 => nx (sI M4 x0 1 ((gI M4 x0 1) + 1)) fun M5 => k3 M5 (x0) (x1) ((x2 + (-8)))
def f_X6_add_3  : Nat → Mem → Nat → Int32 → Int32 → Option (Mem)
  | 0 => fun _ _ _ _ => none
  | n + 1 => fun y0 y1 y2 y3 => s_X6_add_3  (f_X6_add_3  n) y0 y1 y2 y3
def f_X6_add (M : Mem) (a0 : Nat) (a1 : Int32) : Option (Mem) :=
  f_X6_add_3 FU M (a0) (a1) (24)
theorem t_s_X6_add_3 {X : Cx} {res : Mem} {k3 : Mem → Nat → Int32 → Int32 → Option (Mem)} (hX : OkX X cX6_add RX6 0 0) (hn : Fit X shC nC) (hR : RetV X shC nC res) (hk3 : ∀ M x0 x1 x2, k3 M x0 x1 x2 = some res → GoN X shC nC 0 0 M 3 [some (.ref (X.B + x0)), some (.int (x1)), some (.int (x2))] []) (M : Mem) (x0 : Nat) (x1 : Int32) (x2 : Int32) (hf : s_X6_add_3 k3 M x0 x1 x2 = some res) : GoN X shC nC 0 0 M 3 [some (.ref (X.B + x0)), some (.int (x1)), some (.int (x2))] [] := by
  refine r_iload_n (i := 2) hX e_X6_add_3 rfl rfl ?_
  refine r_if_lt hX e_X6_add_4 (fun hc => ?_) (fun hc => ?_)
  · have hf := ite_t hf hc
    exact r_ret hX hR e_X6_add_46 hf
  · have hf := ite_f hf hc
    refine r_aload_n (i := 0) hX e_X6_add_7 rfl rfl ?_
    obtain ⟨g1, hf⟩ := gd_s hf
    refine r_getI hX hn e_X6_add_8 fl_6_15 rfl g1 ?_
    refine r_sipush hX e_X6_add_11 sc_2000 ?_
    refine r_icmp_ge hX e_X6_add_14 (fun hc => ?_) (fun hc => ?_)
    · have hf := ite_t hf hc
      exact r_ret hX hR e_X6_add_46 hf
    · have hf := ite_f hf hc
      refine r_aload_n (i := 0) hX e_X6_add_17 rfl rfl ?_
      obtain ⟨r2, hr2, hf⟩ := bd_s hf
      refine r_getR hX hn e_X6_add_18 fl_6_9 rfl g1 hr2 ?_
      refine r_aload_n (i := 0) hX e_X6_add_21 rfl rfl ?_
      refine r_getI hX hn e_X6_add_22 fl_6_15 rfl g1 ?_
      refine r_iload_n (i := 1) hX e_X6_add_25 rfl rfl ?_
      refine r_iload_n (i := 2) hX e_X6_add_26 rfl rfl ?_
      refine r_ishr hX e_X6_add_27 ?_
      refine r_i2b hX e_X6_add_28 ?_
      obtain ⟨g3, hf⟩ := gd_s hf
      obtain ⟨M4, hM4, hf⟩ := nx_s hf
      refine r_bast hX hn hM4 e_X6_add_29 g3 ?_
      refine r_aload_n (i := 0) hX e_X6_add_30 rfl rfl ?_
      refine r_dup hX e_X6_add_31 rfl ?_
      refine r_getI hX hn e_X6_add_32 fl_6_15 rfl g1 ?_
      refine r_iconst hX e_X6_add_35 ic_1 ?_
      refine r_iadd hX e_X6_add_36 ?_
      obtain ⟨M5, hM5, hf⟩ := nx_s hf
      refine r_putI hX hn hM5 e_X6_add_37 fl_6_15 fp_6_1 rfl g1 ?_
      refine r_iinc (v := x2 + (-8)) hX e_X6_add_40 rfl (ii_s ic_m8) (Nat.le_of_ble_eq_true rfl) rfl ?_
      refine r_goto hX e_X6_add_43 ?_
      exact GoN.weak (hk3 M5 (x0) (x1) ((x2 + (-8))) hf) rfl (sb_s (sb_s (sb_s (sb_z _))))
theorem t_X6_add_3 {X : Cx} {res : Mem}  (hX : OkX X cX6_add RX6 0 0) (hn : Fit X shC nC) (hR : RetV X shC nC res)  : ∀ (n : Nat) (M : Mem) (x0 : Nat) (x1 : Int32) (x2 : Int32),  f_X6_add_3  n M x0 x1 x2 = some res → GoN X shC nC 0 0 M 3 [some (.ref (X.B + x0)), some (.int (x1)), some (.int (x2))] [] := by
  intro n
  induction n with
  | zero => intro M x0 x1 x2 hf; cases hf
  | succ n ih => intro M x0 x1 x2 hf; exact t_s_X6_add_3 hX hn hR  ih M x0 x1 x2 hf
theorem t_X6_add {l : Launch} {M : Mem} {a0 : Nat} {a1 : Int32} {res : Mem} (hf : f_X6_add M a0 a1 = some res) : Cv l yX6_add cX6_add 3 none 0 0 shC nC (fun K B => [.ref (B + a0), .int a1]) M res := by
  refine met_v (own := RX6) (lo := fun K B => [some (.ref (B + a0)), some (.int a1), none]) (by decide +kernel) rfl shC_ok (fun _ _ => rfl) (fun _ _ => rfl) (fun _ _ => Nat.le_of_ble_eq_true rfl) (fun X hX hn hlx hR => ?_)
  refine r_bipush hX e_X6_add_0 bc_24 ?_
  refine r_istore_n (i := 2) hX e_X6_add_2 rfl (Nat.le_of_ble_eq_true rfl) rfl ?_
  exact GoN.weak (t_X6_add_3 hX hn hR FU M (a0) (a1) (24) hf) rfl (sb_s (sb_s (sb_s (sb_z _))))
def f_X6_isLetter (M : Mem) (a0 : Int32) : Option (Int32) :=
  if a0 < 97 then some 0 else if 122 < a0 then some 0 else some 1
theorem t_X6_isLetter {l : Launch} {M : Mem} {a0 : Int32} {res : Int32} (hf : f_X6_isLetter M a0 = some res) : Ci l yX6_isLetter cX6_isLetter 1 (some .boolean) 0 0 shC nC (fun K B => [.int a0]) M (M, res) := by
  refine met_i (own := RX6) (lo := fun K B => [some (.int a0)]) (by decide +kernel) rfl shC_ok (fun _ _ => rfl) (fun _ _ => rfl) (fun _ _ => Nat.le_of_ble_eq_true rfl) (fun X hX hn hlx hR => ?_)
  refine r_iload_n (i := 0) hX e_X6_isLetter_0 rfl rfl ?_
  refine r_bipush hX e_X6_isLetter_1 bc_97 ?_
  refine r_icmp_lt hX e_X6_isLetter_3 (fun hc => ?_) (fun hc => ?_)
  · have hf := ite_t hf hc
    refine r_iconst hX e_X6_isLetter_16 ic_0 ?_
    exact r_zret hX hR rfl e_X6_isLetter_17 (ro_s hf)
  · have hf := ite_f hf hc
    refine r_iload_n (i := 0) hX e_X6_isLetter_6 rfl rfl ?_
    refine r_bipush hX e_X6_isLetter_7 bc_122 ?_
    refine r_icmp_gt hX e_X6_isLetter_9 (fun hc => ?_) (fun hc => ?_)
    · have hf := ite_t hf hc
      refine r_iconst hX e_X6_isLetter_16 ic_0 ?_
      exact r_zret hX hR rfl e_X6_isLetter_17 (ro_s hf)
    · have hf := ite_f hf hc
      refine r_iconst hX e_X6_isLetter_12 ic_1 ?_
      refine r_goto hX e_X6_isLetter_13 ?_
      exact r_zret hX hR rfl e_X6_isLetter_17 (ro_s hf)
def s_X6_takeWord_5 (k5 : Mem → Nat → Option (Mem)) (M : Mem) (x0 : Nat) : Option (Mem) :=
  gd (oB shC x0 6) <| if (gI M x0 1) ≤ (gI M x0 5) then some M else bd (gR M x0 0) fun r2 => gd (aB shC r2 3 (gI M x0 5)) <| bd (f_X6_isLetter M (gI M r2 ((gI M x0 5) : Int32).toNatClampNeg)) fun v4 => if v4 = 0 then some M else nx (sI M x0 5 ((gI M x0 5) + 1)) fun M5 => k5 M5 (x0)
def f_X6_takeWord_5  : Nat → Mem → Nat → Option (Mem)
  | 0 => fun _ _ => none
  | n + 1 => fun y0 y1 => s_X6_takeWord_5  (f_X6_takeWord_5  n) y0 y1
def f_X6_takeWord (M : Mem) (a0 : Nat) : Option (Mem) :=
  gd (oB shC a0 6) <| nx (sI M a0 6 1) fun M2 => f_X6_takeWord_5 FU M2 (a0)
theorem t_s_X6_takeWord_5 {X : Cx} {res : Mem} {k5 : Mem → Nat → Option (Mem)} (hX : OkX X cX6_takeWord RX6 1 20) (hn : Fit X shC nC) (hR : RetV X shC nC res) (hk5 : ∀ M x0, k5 M x0 = some res → GoN X shC nC 0 0 M 5 [some (.ref (X.B + x0))] []) (M : Mem) (x0 : Nat) (hf : s_X6_takeWord_5 k5 M x0 = some res) : GoN X shC nC 0 0 M 5 [some (.ref (X.B + x0))] [] := by
  refine r_aload_n (i := 0) hX e_X6_takeWord_5 rfl rfl ?_
  obtain ⟨g1, hf⟩ := gd_s hf
  refine r_getI hX hn e_X6_takeWord_6 fl_6_25 rfl g1 ?_
  refine r_aload_n (i := 0) hX e_X6_takeWord_9 rfl rfl ?_
  refine r_getI hX hn e_X6_takeWord_10 fl_6_15 rfl g1 ?_
  refine r_icmp_ge hX e_X6_takeWord_13 (fun hc => ?_) (fun hc => ?_)
  · have hf := ite_t hf hc
    exact r_ret hX hR e_X6_takeWord_44 hf
  · have hf := ite_f hf hc
    refine r_aload_n (i := 0) hX e_X6_takeWord_16 rfl rfl ?_
    obtain ⟨r2, hr2, hf⟩ := bd_s hf
    refine r_getR hX hn e_X6_takeWord_17 fl_6_9 rfl g1 hr2 ?_
    refine r_aload_n (i := 0) hX e_X6_takeWord_20 rfl rfl ?_
    refine r_getI hX hn e_X6_takeWord_21 fl_6_25 rfl g1 ?_
    obtain ⟨g3, hf⟩ := gd_s hf
    refine r_bald hX hn e_X6_takeWord_24 g3 ?_
    obtain ⟨v4, hv4, hf⟩ := bd_s hf
    refine r_csi (As := fun K B => [.int ((gI M r2 ((gI M x0 5) : Int32).toNatClampNeg))]) hX hn (t_X6_isLetter hv4) e_X6_takeWord_25 cw_X6_isLetter cv_X6_isLetter lk_6_244 ⟨Nat.le_of_ble_eq_true rfl, Nat.le_of_ble_eq_true rfl⟩ rfl rfl (Nat.le_of_ble_eq_true rfl) ⟨Nat.zero_le _, Nat.zero_le _⟩ ?_
    refine r_if_eq hX e_X6_takeWord_28 (fun hc => ?_) (fun hc => ?_)
    · have hf := ite_t hf hc
      exact r_ret hX hR e_X6_takeWord_44 hf
    · have hf := ite_f hf hc
      refine r_aload_n (i := 0) hX e_X6_takeWord_31 rfl rfl ?_
      refine r_dup hX e_X6_takeWord_32 rfl ?_
      refine r_getI hX hn e_X6_takeWord_33 fl_6_25 rfl g1 ?_
      refine r_iconst hX e_X6_takeWord_36 ic_1 ?_
      refine r_iadd hX e_X6_takeWord_37 ?_
      obtain ⟨M5, hM5, hf⟩ := nx_s hf
      refine r_putI hX hn hM5 e_X6_takeWord_38 fl_6_25 fp_6_5 rfl g1 ?_
      refine r_goto hX e_X6_takeWord_41 ?_
      exact GoN.weak (hk5 M5 (x0) hf) rfl (sb_s (sb_z _))
theorem t_X6_takeWord_5 {X : Cx} {res : Mem}  (hX : OkX X cX6_takeWord RX6 1 20) (hn : Fit X shC nC) (hR : RetV X shC nC res)  : ∀ (n : Nat) (M : Mem) (x0 : Nat),  f_X6_takeWord_5  n M x0 = some res → GoN X shC nC 0 0 M 5 [some (.ref (X.B + x0))] [] := by
  intro n
  induction n with
  | zero => intro M x0 hf; cases hf
  | succ n ih => intro M x0 hf; exact t_s_X6_takeWord_5 hX hn hR  ih M x0 hf
theorem t_X6_takeWord {l : Launch} {M : Mem} {a0 : Nat} {res : Mem} (hf : f_X6_takeWord M a0 = some res) : Cv l yX6_takeWord cX6_takeWord 1 none 1 20 shC nC (fun K B => [.ref (B + a0)]) M res := by
  refine met_v (own := RX6) (lo := fun K B => [some (.ref (B + a0))]) (by decide +kernel) rfl shC_ok (fun _ _ => rfl) (fun _ _ => rfl) (fun _ _ => Nat.le_of_ble_eq_true rfl) (fun X hX hn hlx hR => ?_)
  refine r_aload_n (i := 0) hX e_X6_takeWord_0 rfl rfl ?_
  refine r_iconst hX e_X6_takeWord_1 ic_1 ?_
  obtain ⟨g1, hf⟩ := gd_s hf
  obtain ⟨M2, hM2, hf⟩ := nx_s hf
  refine r_putI hX hn hM2 e_X6_takeWord_2 fl_6_39 fp_6_6 rfl g1 ?_
  exact GoN.weak (t_X6_takeWord_5 hX hn hR FU M2 (a0) hf) rfl (sb_s (sb_z _))
def f_X6_isDigit (M : Mem) (a0 : Int32) : Option (Int32) :=
  if a0 < 48 then some 0 else if 57 < a0 then some 0 else some 1
theorem t_X6_isDigit {l : Launch} {M : Mem} {a0 : Int32} {res : Int32} (hf : f_X6_isDigit M a0 = some res) : Ci l yX6_isDigit cX6_isDigit 1 (some .boolean) 0 0 shC nC (fun K B => [.int a0]) M (M, res) := by
  refine met_i (own := RX6) (lo := fun K B => [some (.int a0)]) (by decide +kernel) rfl shC_ok (fun _ _ => rfl) (fun _ _ => rfl) (fun _ _ => Nat.le_of_ble_eq_true rfl) (fun X hX hn hlx hR => ?_)
  refine r_iload_n (i := 0) hX e_X6_isDigit_0 rfl rfl ?_
  refine r_bipush hX e_X6_isDigit_1 bc_48 ?_
  refine r_icmp_lt hX e_X6_isDigit_3 (fun hc => ?_) (fun hc => ?_)
  · have hf := ite_t hf hc
    refine r_iconst hX e_X6_isDigit_16 ic_0 ?_
    exact r_zret hX hR rfl e_X6_isDigit_17 (ro_s hf)
  · have hf := ite_f hf hc
    refine r_iload_n (i := 0) hX e_X6_isDigit_6 rfl rfl ?_
    refine r_bipush hX e_X6_isDigit_7 bc_57 ?_
    refine r_icmp_gt hX e_X6_isDigit_9 (fun hc => ?_) (fun hc => ?_)
    · have hf := ite_t hf hc
      refine r_iconst hX e_X6_isDigit_16 ic_0 ?_
      exact r_zret hX hR rfl e_X6_isDigit_17 (ro_s hf)
    · have hf := ite_f hf hc
      refine r_iconst hX e_X6_isDigit_12 ic_1 ?_
      refine r_goto hX e_X6_isDigit_13 ?_
      exact r_zret hX hR rfl e_X6_isDigit_17 (ro_s hf)
def s_X6_takeNumber_10 (k10 : Mem → Nat → Option (Mem)) (M : Mem) (x0 : Nat) : Option (Mem) :=
  gd (oB shC x0 6) <| if (gI M x0 1) ≤ (gI M x0 5) then some M else bd (gR M x0 0) fun r2 => gd (aB shC r2 3 (gI M x0 5)) <| bd (f_X6_isDigit M (gI M r2 ((gI M x0 5) : Int32).toNatClampNeg)) fun v4 => if v4 = 0 then some M else nx (((10 * (gI M x0 7)) + (gI M r2 ((gI M x0 5) : Int32).toNatClampNeg))) fun v5 => bd (f_X20_min M 100000 (v5 - 48)) fun v6 => nx (sI M x0 7 v6) fun M7 => nx (sI M7 x0 5 ((gI M7 x0 5) + 1)) fun M8 => k10 M8 (x0)
def f_X6_takeNumber_10  : Nat → Mem → Nat → Option (Mem)
  | 0 => fun _ _ => none
  | n + 1 => fun y0 y1 => s_X6_takeNumber_10  (f_X6_takeNumber_10  n) y0 y1
def f_X6_takeNumber (M : Mem) (a0 : Nat) : Option (Mem) :=
  gd (oB shC a0 6) <| nx (sI M a0 6 2) fun M2 => nx (sI M2 a0 7 0) fun M3 => f_X6_takeNumber_10 FU M3 (a0)
theorem t_s_X6_takeNumber_10 {X : Cx} {res : Mem} {k10 : Mem → Nat → Option (Mem)} (hX : OkX X cX6_takeNumber RX6 1 21) (hn : Fit X shC nC) (hR : RetV X shC nC res) (hk10 : ∀ M x0, k10 M x0 = some res → GoN X shC nC 0 0 M 10 [some (.ref (X.B + x0))] []) (M : Mem) (x0 : Nat) (hf : s_X6_takeNumber_10 k10 M x0 = some res) : GoN X shC nC 0 0 M 10 [some (.ref (X.B + x0))] [] := by
  refine r_aload_n (i := 0) hX e_X6_takeNumber_10 rfl rfl ?_
  obtain ⟨g1, hf⟩ := gd_s hf
  refine r_getI hX hn e_X6_takeNumber_11 fl_6_25 rfl g1 ?_
  refine r_aload_n (i := 0) hX e_X6_takeNumber_14 rfl rfl ?_
  refine r_getI hX hn e_X6_takeNumber_15 fl_6_15 rfl g1 ?_
  refine r_icmp_ge hX e_X6_takeNumber_18 (fun hc => ?_) (fun hc => ?_)
  · have hf := ite_t hf hc
    exact r_ret hX hR e_X6_takeNumber_79 hf
  · have hf := ite_f hf hc
    refine r_aload_n (i := 0) hX e_X6_takeNumber_21 rfl rfl ?_
    obtain ⟨r2, hr2, hf⟩ := bd_s hf
    refine r_getR hX hn e_X6_takeNumber_22 fl_6_9 rfl g1 hr2 ?_
    refine r_aload_n (i := 0) hX e_X6_takeNumber_25 rfl rfl ?_
    refine r_getI hX hn e_X6_takeNumber_26 fl_6_25 rfl g1 ?_
    obtain ⟨g3, hf⟩ := gd_s hf
    refine r_bald hX hn e_X6_takeNumber_29 g3 ?_
    obtain ⟨v4, hv4, hf⟩ := bd_s hf
    refine r_csi (As := fun K B => [.int ((gI M r2 ((gI M x0 5) : Int32).toNatClampNeg))]) hX hn (t_X6_isDigit hv4) e_X6_takeNumber_30 cw_X6_isDigit cv_X6_isDigit lk_6_251 ⟨Nat.le_of_ble_eq_true rfl, Nat.le_of_ble_eq_true rfl⟩ rfl rfl (Nat.le_of_ble_eq_true rfl) ⟨Nat.zero_le _, Nat.zero_le _⟩ ?_
    refine r_if_eq hX e_X6_takeNumber_33 (fun hc => ?_) (fun hc => ?_)
    · have hf := ite_t hf hc
      exact r_ret hX hR e_X6_takeNumber_79 hf
    · have hf := ite_f hf hc
      refine r_aload_n (i := 0) hX e_X6_takeNumber_36 rfl rfl ?_
      refine r_ldcw hX e_X6_takeNumber_37 wk_526 ?_
      refine r_bipush hX e_X6_takeNumber_40 bc_10 ?_
      refine r_aload_n (i := 0) hX e_X6_takeNumber_42 rfl rfl ?_
      refine r_getI hX hn e_X6_takeNumber_43 fl_6_232 rfl g1 ?_
      refine r_imul hX e_X6_takeNumber_46 ?_
      refine r_aload_n (i := 0) hX e_X6_takeNumber_47 rfl rfl ?_
      refine r_getR hX hn e_X6_takeNumber_48 fl_6_9 rfl g1 hr2 ?_
      refine r_aload_n (i := 0) hX e_X6_takeNumber_51 rfl rfl ?_
      refine r_getI hX hn e_X6_takeNumber_52 fl_6_25 rfl g1 ?_
      refine r_bald hX hn e_X6_takeNumber_55 g3 ?_
      refine r_iadd hX e_X6_takeNumber_56 ?_
      obtain ⟨v5, hv5, hf⟩ := nx_s hf
      refine top_i hv5 ?_
      refine r_bipush hX e_X6_takeNumber_57 bc_48 ?_
      refine r_isub hX e_X6_takeNumber_59 ?_
      obtain ⟨v6, hv6, hf⟩ := bd_s hf
      refine r_csi (As := fun K B => [.int (100000), .int ((v5 - 48))]) hX hn (t_X20_min hv6) e_X6_takeNumber_60 cw_X20_min cv_X20_min lk_6_258 ⟨Nat.le_of_ble_eq_true rfl, Nat.le_of_ble_eq_true rfl⟩ rfl rfl (Nat.le_of_ble_eq_true rfl) ⟨Nat.zero_le _, Nat.zero_le _⟩ ?_
      obtain ⟨M7, hM7, hf⟩ := nx_s hf
      refine r_putI hX hn hM7 e_X6_takeNumber_63 fl_6_232 fp_6_7 rfl g1 ?_
      refine r_aload_n (i := 0) hX e_X6_takeNumber_66 rfl rfl ?_
      refine r_dup hX e_X6_takeNumber_67 rfl ?_
      refine r_getI hX hn e_X6_takeNumber_68 fl_6_25 rfl g1 ?_
      refine r_iconst hX e_X6_takeNumber_71 ic_1 ?_
      refine r_iadd hX e_X6_takeNumber_72 ?_
      obtain ⟨M8, hM8, hf⟩ := nx_s hf
      refine r_putI hX hn hM8 e_X6_takeNumber_73 fl_6_25 fp_6_5 rfl g1 ?_
      refine r_goto hX e_X6_takeNumber_76 ?_
      exact GoN.weak (hk10 M8 (x0) hf) rfl (sb_s (sb_z _))
theorem t_X6_takeNumber_10 {X : Cx} {res : Mem}  (hX : OkX X cX6_takeNumber RX6 1 21) (hn : Fit X shC nC) (hR : RetV X shC nC res)  : ∀ (n : Nat) (M : Mem) (x0 : Nat),  f_X6_takeNumber_10  n M x0 = some res → GoN X shC nC 0 0 M 10 [some (.ref (X.B + x0))] [] := by
  intro n
  induction n with
  | zero => intro M x0 hf; cases hf
  | succ n ih => intro M x0 hf; exact t_s_X6_takeNumber_10 hX hn hR  ih M x0 hf
theorem t_X6_takeNumber {l : Launch} {M : Mem} {a0 : Nat} {res : Mem} (hf : f_X6_takeNumber M a0 = some res) : Cv l yX6_takeNumber cX6_takeNumber 1 none 1 21 shC nC (fun K B => [.ref (B + a0)]) M res := by
  refine met_v (own := RX6) (lo := fun K B => [some (.ref (B + a0))]) (by decide +kernel) rfl shC_ok (fun _ _ => rfl) (fun _ _ => rfl) (fun _ _ => Nat.le_of_ble_eq_true rfl) (fun X hX hn hlx hR => ?_)
  refine r_aload_n (i := 0) hX e_X6_takeNumber_0 rfl rfl ?_
  refine r_iconst hX e_X6_takeNumber_1 ic_2 ?_
  obtain ⟨g1, hf⟩ := gd_s hf
  obtain ⟨M2, hM2, hf⟩ := nx_s hf
  refine r_putI hX hn hM2 e_X6_takeNumber_2 fl_6_39 fp_6_6 rfl g1 ?_
  refine r_aload_n (i := 0) hX e_X6_takeNumber_5 rfl rfl ?_
  refine r_iconst hX e_X6_takeNumber_6 ic_0 ?_
  obtain ⟨M3, hM3, hf⟩ := nx_s hf
  refine r_putI hX hn hM3 e_X6_takeNumber_7 fl_6_232 fp_6_7 rfl g1 ?_
  exact GoN.weak (t_X6_takeNumber_10 hX hn hR FU M3 (a0) hf) rfl (sb_s (sb_z _))
def f_X6_next_151  (M : Mem) (x0 : Nat) (s0 : Int32) (s1 : Nat) : Option (Mem) :=
  gd (oB shC s1 6) <| nx (sI M s1 6 s0) fun M2 => gd (oB shC x0 6) <| nx (sI M2 x0 5 ((gI M2 x0 5) + 1)) fun M4 => some M4
def f_X6_next_60  (M : Mem) (x0 : Nat) : Option (Mem) :=
  gd (oB shC x0 6) <| nx (sI M x0 5 (gI M x0 4)) fun M2 => if (gI M2 x0 4) < (gI M2 x0 1) then bd (gR M2 x0 0) fun r3 => gd (aB shC r3 3 (gI M2 x0 4)) <| nx ((gI M2 r3 ((gI M2 x0 4) : Int32).toNatClampNeg)) fun v5 => bd (f_X6_isLetter M2 v5) fun v6 => if v6 = 0 then nx ((gI M2 r3 ((gI M2 x0 4) : Int32).toNatClampNeg)) fun v7 => bd (f_X6_isDigit M2 v7) fun v8 => if v8 = 0 then nx ((gI M2 r3 ((gI M2 x0 4) : Int32).toNatClampNeg)) fun v9 => if v9 = 59 then f_X6_next_151 M2 (x0) (3) (x0) else f_X6_next_151 M2 (x0) (4) (x0) else bd (f_X6_takeNumber M2 x0) fun u10 => some u10 else bd (f_X6_takeWord M2 x0) fun u11 => some u11 else nx (sI M2 x0 6 0) fun M12 => some M12
def f_X6_next_47 (k8 : Mem → Nat → Option (Mem)) (M : Mem) (x0 : Nat) : Option (Mem) :=
  gd (oB shC x0 6) <| nx (sI M x0 4 ((gI M x0 4) + 1)) fun M2 => k8 M2 (x0)
def s_X6_next_8 (k8 : Mem → Nat → Option (Mem)) (M : Mem) (x0 : Nat) : Option (Mem) :=
  gd (oB shC x0 6) <| if (gI M x0 1) ≤ (gI M x0 4) then f_X6_next_60 M (x0) else bd (gR M x0 0) fun r2 => gd (aB shC r2 3 (gI M x0 4)) <| if (gI M r2 ((gI M x0 4) : Int32).toNatClampNeg) = 32 then f_X6_next_47 k8 M (x0) else if (gI M r2 ((gI M x0 4) : Int32).toNatClampNeg) = 10 then f_X6_next_47 k8 M (x0) else f_X6_next_60 M (x0)
def f_X6_next_8  : Nat → Mem → Nat → Option (Mem)
  | 0 => fun _ _ => none
  | n + 1 => fun y0 y1 => s_X6_next_8  (f_X6_next_8  n) y0 y1
def f_X6_next (M : Mem) (a0 : Nat) : Option (Mem) :=
  gd (oB shC a0 6) <| nx (sI M a0 4 (gI M a0 5)) fun M2 => f_X6_next_8 FU M2 (a0)
theorem t_X6_next_151 {X : Cx} {res : Mem}  (hX : OkX X cX6_next RX6 2 41) (hn : Fit X shC nC) (hR : RetV X shC nC res)  (M : Mem) (x0 : Nat) (s0 : Int32) (s1 : Nat) (hf : f_X6_next_151  M x0 s0 s1 = some res) : GoN X shC nC 0 0 M 151 [some (.ref (X.B + x0))] [.int (s0), .ref (X.B + s1)] := by
  obtain ⟨g1, hf⟩ := gd_s hf
  obtain ⟨M2, hM2, hf⟩ := nx_s hf
  refine r_putI hX hn hM2 e_X6_next_151 fl_6_39 fp_6_6 rfl g1 ?_
  refine r_aload_n (i := 0) hX e_X6_next_154 rfl rfl ?_
  refine r_dup hX e_X6_next_155 rfl ?_
  obtain ⟨g3, hf⟩ := gd_s hf
  refine r_getI hX hn e_X6_next_156 fl_6_25 rfl g3 ?_
  refine r_iconst hX e_X6_next_159 ic_1 ?_
  refine r_iadd hX e_X6_next_160 ?_
  obtain ⟨M4, hM4, hf⟩ := nx_s hf
  refine r_putI hX hn hM4 e_X6_next_161 fl_6_25 fp_6_5 rfl g3 ?_
  exact r_ret hX hR e_X6_next_164 hf
theorem t_X6_next_60 {X : Cx} {res : Mem}  (hX : OkX X cX6_next RX6 2 41) (hn : Fit X shC nC) (hR : RetV X shC nC res)  (M : Mem) (x0 : Nat) (hf : f_X6_next_60  M x0 = some res) : GoN X shC nC 0 0 M 60 [some (.ref (X.B + x0))] [] := by
  refine r_aload_n (i := 0) hX e_X6_next_60 rfl rfl ?_
  refine r_aload_n (i := 0) hX e_X6_next_61 rfl rfl ?_
  obtain ⟨g1, hf⟩ := gd_s hf
  refine r_getI hX hn e_X6_next_62 fl_6_230 rfl g1 ?_
  obtain ⟨M2, hM2, hf⟩ := nx_s hf
  refine r_putI hX hn hM2 e_X6_next_65 fl_6_25 fp_6_5 rfl g1 ?_
  refine r_aload_n (i := 0) hX e_X6_next_68 rfl rfl ?_
  refine r_getI hX hn e_X6_next_69 fl_6_230 rfl g1 ?_
  refine r_aload_n (i := 0) hX e_X6_next_72 rfl rfl ?_
  refine r_getI hX hn e_X6_next_73 fl_6_15 rfl g1 ?_
  refine r_icmp_lt hX e_X6_next_76 (fun hc => ?_) (fun hc => ?_)
  · have hf := ite_t hf hc
    refine r_aload_n (i := 0) hX e_X6_next_87 rfl rfl ?_
    obtain ⟨r3, hr3, hf⟩ := bd_s hf
    refine r_getR hX hn e_X6_next_88 fl_6_9 rfl g1 hr3 ?_
    refine r_aload_n (i := 0) hX e_X6_next_91 rfl rfl ?_
    refine r_getI hX hn e_X6_next_92 fl_6_230 rfl g1 ?_
    obtain ⟨g4, hf⟩ := gd_s hf
    refine r_bald hX hn e_X6_next_95 g4 ?_
    obtain ⟨v5, hv5, hf⟩ := nx_s hf
    refine top_i hv5 ?_
    obtain ⟨v6, hv6, hf⟩ := bd_s hf
    refine r_csi (As := fun K B => [.int (v5)]) hX hn (t_X6_isLetter hv6) e_X6_next_96 cw_X6_isLetter cv_X6_isLetter lk_6_244 ⟨Nat.le_of_ble_eq_true rfl, Nat.le_of_ble_eq_true rfl⟩ rfl rfl (Nat.le_of_ble_eq_true rfl) ⟨Nat.zero_le _, Nat.zero_le _⟩ ?_
    refine r_if_eq hX e_X6_next_99 (fun hc => ?_) (fun hc => ?_)
    · have hf := ite_t hf hc
      refine r_aload_n (i := 0) hX e_X6_next_109 rfl rfl ?_
      refine r_getR hX hn e_X6_next_110 fl_6_9 rfl g1 hr3 ?_
      refine r_aload_n (i := 0) hX e_X6_next_113 rfl rfl ?_
      refine r_getI hX hn e_X6_next_114 fl_6_230 rfl g1 ?_
      refine r_bald hX hn e_X6_next_117 g4 ?_
      obtain ⟨v7, hv7, hf⟩ := nx_s hf
      refine top_i hv7 ?_
      obtain ⟨v8, hv8, hf⟩ := bd_s hf
      refine r_csi (As := fun K B => [.int (v7)]) hX hn (t_X6_isDigit hv8) e_X6_next_118 cw_X6_isDigit cv_X6_isDigit lk_6_251 ⟨Nat.le_of_ble_eq_true rfl, Nat.le_of_ble_eq_true rfl⟩ rfl rfl (Nat.le_of_ble_eq_true rfl) ⟨Nat.zero_le _, Nat.zero_le _⟩ ?_
      refine r_if_eq hX e_X6_next_121 (fun hc => ?_) (fun hc => ?_)
      · have hf := ite_t hf hc
        refine r_aload_n (i := 0) hX e_X6_next_131 rfl rfl ?_
        refine r_aload_n (i := 0) hX e_X6_next_132 rfl rfl ?_
        refine r_getR hX hn e_X6_next_133 fl_6_9 rfl g1 hr3 ?_
        refine r_aload_n (i := 0) hX e_X6_next_136 rfl rfl ?_
        refine r_getI hX hn e_X6_next_137 fl_6_230 rfl g1 ?_
        refine r_bald hX hn e_X6_next_140 g4 ?_
        obtain ⟨v9, hv9, hf⟩ := nx_s hf
        refine top_i hv9 ?_
        refine r_bipush hX e_X6_next_141 bc_59 ?_
        refine r_icmp_ne hX e_X6_next_143 (fun hc => ?_) (fun hc => ?_)
        · have hf := ite_f hf hc
          refine r_iconst hX e_X6_next_150 ic_4 ?_
          exact GoN.weak (t_X6_next_151 hX hn hR M2 (x0) (4) (x0) hf) rfl (sb_s (sb_z _))
        · have hf := ite_t hf hc
          refine r_iconst hX e_X6_next_146 ic_3 ?_
          refine r_goto hX e_X6_next_147 ?_
          exact GoN.weak (t_X6_next_151 hX hn hR M2 (x0) (3) (x0) hf) rfl (sb_s (sb_z _))
      · have hf := ite_f hf hc
        refine r_aload_n (i := 0) hX e_X6_next_124 rfl rfl ?_
        obtain ⟨u10, hu10, hf⟩ := bd_s hf
        refine r_cvv (As := fun K B => []) hX hn (t_X6_takeNumber hu10) e_X6_next_125 cw_X6_takeNumber cv_X6_takeNumber lk_6_254 ⟨Nat.le_of_ble_eq_true rfl, Nat.le_of_ble_eq_true rfl⟩ (ci := 6) rfl rfl (Nat.le_of_ble_eq_true rfl) g1 rfl rfl (Nat.le_of_ble_eq_true rfl) ⟨Nat.zero_le _, Nat.zero_le _⟩ ?_
        refine r_goto hX e_X6_next_128 ?_
        exact r_ret hX hR e_X6_next_164 hf
    · have hf := ite_f hf hc
      refine r_aload_n (i := 0) hX e_X6_next_102 rfl rfl ?_
      obtain ⟨u11, hu11, hf⟩ := bd_s hf
      refine r_cvv (As := fun K B => []) hX hn (t_X6_takeWord hu11) e_X6_next_103 cw_X6_takeWord cv_X6_takeWord lk_6_248 ⟨Nat.le_of_ble_eq_true rfl, Nat.le_of_ble_eq_true rfl⟩ (ci := 6) rfl rfl (Nat.le_of_ble_eq_true rfl) g1 rfl rfl (Nat.le_of_ble_eq_true rfl) ⟨Nat.zero_le _, Nat.zero_le _⟩ ?_
      refine r_goto hX e_X6_next_106 ?_
      exact r_ret hX hR e_X6_next_164 hf
  · have hf := ite_f hf hc
    refine r_aload_n (i := 0) hX e_X6_next_79 rfl rfl ?_
    refine r_iconst hX e_X6_next_80 ic_0 ?_
    obtain ⟨M12, hM12, hf⟩ := nx_s hf
    refine r_putI hX hn hM12 e_X6_next_81 fl_6_39 fp_6_6 rfl g1 ?_
    refine r_goto hX e_X6_next_84 ?_
    exact r_ret hX hR e_X6_next_164 hf
theorem t_X6_next_47 {X : Cx} {res : Mem} {k8 : Mem → Nat → Option (Mem)} (hX : OkX X cX6_next RX6 2 41) (hn : Fit X shC nC) (hR : RetV X shC nC res) (hk8 : ∀ M x0, k8 M x0 = some res → GoN X shC nC 0 0 M 8 [some (.ref (X.B + x0))] []) (M : Mem) (x0 : Nat) (hf : f_X6_next_47 k8 M x0 = some res) : GoN X shC nC 0 0 M 47 [some (.ref (X.B + x0))] [] := by
  refine r_aload_n (i := 0) hX e_X6_next_47 rfl rfl ?_
  refine r_dup hX e_X6_next_48 rfl ?_
  obtain ⟨g1, hf⟩ := gd_s hf
  refine r_getI hX hn e_X6_next_49 fl_6_230 rfl g1 ?_
  refine r_iconst hX e_X6_next_52 ic_1 ?_
  refine r_iadd hX e_X6_next_53 ?_
  obtain ⟨M2, hM2, hf⟩ := nx_s hf
  refine r_putI hX hn hM2 e_X6_next_54 fl_6_230 fp_6_4 rfl g1 ?_
  refine r_goto hX e_X6_next_57 ?_
  exact GoN.weak (hk8 M2 (x0) hf) rfl (sb_s (sb_z _))
theorem t_s_X6_next_8 {X : Cx} {res : Mem} {k8 : Mem → Nat → Option (Mem)} (hX : OkX X cX6_next RX6 2 41) (hn : Fit X shC nC) (hR : RetV X shC nC res) (hk8 : ∀ M x0, k8 M x0 = some res → GoN X shC nC 0 0 M 8 [some (.ref (X.B + x0))] []) (M : Mem) (x0 : Nat) (hf : s_X6_next_8 k8 M x0 = some res) : GoN X shC nC 0 0 M 8 [some (.ref (X.B + x0))] [] := by
  refine r_aload_n (i := 0) hX e_X6_next_8 rfl rfl ?_
  obtain ⟨g1, hf⟩ := gd_s hf
  refine r_getI hX hn e_X6_next_9 fl_6_230 rfl g1 ?_
  refine r_aload_n (i := 0) hX e_X6_next_12 rfl rfl ?_
  refine r_getI hX hn e_X6_next_13 fl_6_15 rfl g1 ?_
  refine r_icmp_ge hX e_X6_next_16 (fun hc => ?_) (fun hc => ?_)
  · have hf := ite_t hf hc
    exact GoN.weak (t_X6_next_60 hX hn hR M (x0) hf) rfl (sb_s (sb_z _))
  · have hf := ite_f hf hc
    refine r_aload_n (i := 0) hX e_X6_next_19 rfl rfl ?_
    obtain ⟨r2, hr2, hf⟩ := bd_s hf
    refine r_getR hX hn e_X6_next_20 fl_6_9 rfl g1 hr2 ?_
    refine r_aload_n (i := 0) hX e_X6_next_23 rfl rfl ?_
    refine r_getI hX hn e_X6_next_24 fl_6_230 rfl g1 ?_
    obtain ⟨g3, hf⟩ := gd_s hf
    refine r_bald hX hn e_X6_next_27 g3 ?_
    refine r_bipush hX e_X6_next_28 bc_32 ?_
    refine r_icmp_eq hX e_X6_next_30 (fun hc => ?_) (fun hc => ?_)
    · have hf := ite_t hf hc
      exact GoN.weak (t_X6_next_47 hX hn hR hk8 M (x0) hf) rfl (sb_s (sb_z _))
    · have hf := ite_f hf hc
      refine r_aload_n (i := 0) hX e_X6_next_33 rfl rfl ?_
      refine r_getR hX hn e_X6_next_34 fl_6_9 rfl g1 hr2 ?_
      refine r_aload_n (i := 0) hX e_X6_next_37 rfl rfl ?_
      refine r_getI hX hn e_X6_next_38 fl_6_230 rfl g1 ?_
      refine r_bald hX hn e_X6_next_41 g3 ?_
      refine r_bipush hX e_X6_next_42 bc_10 ?_
      refine r_icmp_ne hX e_X6_next_44 (fun hc => ?_) (fun hc => ?_)
      · have hf := ite_f hf hc
        exact GoN.weak (t_X6_next_60 hX hn hR M (x0) hf) rfl (sb_s (sb_z _))
      · have hf := ite_t hf hc
        exact GoN.weak (t_X6_next_47 hX hn hR hk8 M (x0) hf) rfl (sb_s (sb_z _))
theorem t_X6_next_8 {X : Cx} {res : Mem}  (hX : OkX X cX6_next RX6 2 41) (hn : Fit X shC nC) (hR : RetV X shC nC res)  : ∀ (n : Nat) (M : Mem) (x0 : Nat),  f_X6_next_8  n M x0 = some res → GoN X shC nC 0 0 M 8 [some (.ref (X.B + x0))] [] := by
  intro n
  induction n with
  | zero => intro M x0 hf; cases hf
  | succ n ih => intro M x0 hf; exact t_s_X6_next_8 hX hn hR  ih M x0 hf
theorem t_X6_next {l : Launch} {M : Mem} {a0 : Nat} {res : Mem} (hf : f_X6_next M a0 = some res) : Cv l yX6_next cX6_next 1 none 2 41 shC nC (fun K B => [.ref (B + a0)]) M res := by
  refine met_v (own := RX6) (lo := fun K B => [some (.ref (B + a0))]) (by decide +kernel) rfl shC_ok (fun _ _ => rfl) (fun _ _ => rfl) (fun _ _ => Nat.le_of_ble_eq_true rfl) (fun X hX hn hlx hR => ?_)
  refine r_aload_n (i := 0) hX e_X6_next_0 rfl rfl ?_
  refine r_aload_n (i := 0) hX e_X6_next_1 rfl rfl ?_
  obtain ⟨g1, hf⟩ := gd_s hf
  refine r_getI hX hn e_X6_next_2 fl_6_25 rfl g1 ?_
  obtain ⟨M2, hM2, hf⟩ := nx_s hf
  refine r_putI hX hn hM2 e_X6_next_5 fl_6_230 fp_6_4 rfl g1 ?_
  exact GoN.weak (t_X6_next_8 hX hn hR FU M2 (a0) hf) rfl (sb_s (sb_z _))
def s_X6_isWord_28 (M : Mem) (k28 : Nat → Nat → Int32 → Option (Int32)) (x0 : Nat) (x1 : Nat) (x2 : Int32) : Option (Int32) :=
  gd (sB x1) <| if (sLen x1) ≤ x2 then some 1 else gd (oB shC x0 6) <| bd (gR M x0 0) fun r3 => gd (aB shC r3 3 ((gI M x0 4) + x2)) <| nx ((gI M r3 (((gI M x0 4) + x2) : Int32).toNatClampNeg)) fun v5 => gd (inb x2 (SBYT.getD x1 []).length) <| if v5 = (sChr x1 x2) then k28 (x0) (x1) ((x2 + 1)) else some 0
def f_X6_isWord_28 (M : Mem)  : Nat → Nat → Nat → Int32 → Option (Int32)
  | 0 => fun _ _ _ => none
  | n + 1 => fun y0 y1 y2 => s_X6_isWord_28 M  (f_X6_isWord_28 M  n) y0 y1 y2
def f_X6_isWord (M : Mem) (a0 : Nat) (a1 : Nat) : Option (Int32) :=
  gd (oB shC a0 6) <| if (gI M a0 6) = 1 then gd (sB a1) <| if ((gI M a0 5) - (gI M a0 4)) = (sLen a1) then f_X6_isWord_28 M FU (a0) (a1) (0) else some 0 else some 0
theorem t_s_X6_isWord_28 {X : Cx} {M : Mem} {res : Int32} {k28 : Nat → Nat → Int32 → Option (Int32)} (hX : OkX X cX6_isWord RX6 4 85) (hn : Fit X shC nC) (hR : RetI X shC nC .boolean (M, res)) (hk28 : ∀ x0 x1 x2, k28 x0 x1 x2 = some res → GoN X shC nC 0 0 M 28 [some (.ref (X.B + x0)), some (.ref (X.cA (1000 + x1))), some (.int (x2))] []) (x0 : Nat) (x1 : Nat) (x2 : Int32) (hf : s_X6_isWord_28 M k28 x0 x1 x2 = some res) : GoN X shC nC 0 0 M 28 [some (.ref (X.B + x0)), some (.ref (X.cA (1000 + x1))), some (.int (x2))] [] := by
  refine r_iload_n (i := 2) hX e_X6_isWord_28 rfl rfl ?_
  refine r_aload_n (i := 1) hX e_X6_isWord_29 rfl rfl ?_
  obtain ⟨g1, hf⟩ := gd_s hf
  refine r_cti (As := fun _ _ => []) hX hn (sB_s g1) (t_X23_length (sB_s g1)) e_X6_isWord_30 cw_X23_length cv_X23_length lk_6_235 ⟨Nat.le_of_ble_eq_true rfl, Nat.le_of_ble_eq_true rfl⟩ rfl rfl rfl (Nat.le_of_ble_eq_true rfl) ⟨Nat.zero_le _, Nat.zero_le _⟩ ?_
  refine r_icmp_ge hX e_X6_isWord_33 (fun hc => ?_) (fun hc => ?_)
  · have hf := ite_t hf hc
    refine r_iconst hX e_X6_isWord_63 ic_1 ?_
    exact r_zret hX hR rfl e_X6_isWord_64 (ro_s hf)
  · have hf := ite_f hf hc
    refine r_aload_n (i := 0) hX e_X6_isWord_36 rfl rfl ?_
    obtain ⟨g2, hf⟩ := gd_s hf
    obtain ⟨r3, hr3, hf⟩ := bd_s hf
    refine r_getR hX hn e_X6_isWord_37 fl_6_9 rfl g2 hr3 ?_
    refine r_aload_n (i := 0) hX e_X6_isWord_40 rfl rfl ?_
    refine r_getI hX hn e_X6_isWord_41 fl_6_230 rfl g2 ?_
    refine r_iload_n (i := 2) hX e_X6_isWord_44 rfl rfl ?_
    refine r_iadd hX e_X6_isWord_45 ?_
    obtain ⟨g4, hf⟩ := gd_s hf
    refine r_bald hX hn e_X6_isWord_46 g4 ?_
    obtain ⟨v5, hv5, hf⟩ := nx_s hf
    refine top_i hv5 ?_
    refine r_aload_n (i := 1) hX e_X6_isWord_47 rfl rfl ?_
    refine r_iload_n (i := 2) hX e_X6_isWord_48 rfl rfl ?_
    obtain ⟨g6, hf⟩ := gd_s hf
    refine r_cti (As := fun _ _ => [.int (x2)]) hX hn (sB_s g1) (t_X23_charAt (sB_s g1) g6) e_X6_isWord_49 cw_X23_charAt cv_X23_charAt lk_6_240 ⟨Nat.le_of_ble_eq_true rfl, Nat.le_of_ble_eq_true rfl⟩ rfl rfl rfl (Nat.le_of_ble_eq_true rfl) ⟨Nat.zero_le _, Nat.zero_le _⟩ ?_
    refine r_icmp_eq hX e_X6_isWord_52 (fun hc => ?_) (fun hc => ?_)
    · have hf := ite_t hf hc
      refine r_iinc (v := x2 + 1) hX e_X6_isWord_57 rfl (ii_s ic_1) (Nat.le_of_ble_eq_true rfl) rfl ?_
      refine r_goto hX e_X6_isWord_60 ?_
      exact GoN.weak (hk28 (x0) (x1) ((x2 + 1)) hf) rfl (sb_s (sb_s (sb_s (sb_z _))))
    · have hf := ite_f hf hc
      refine r_iconst hX e_X6_isWord_55 ic_0 ?_
      exact r_zret hX hR rfl e_X6_isWord_56 (ro_s hf)
theorem t_X6_isWord_28 {X : Cx} {M : Mem} {res : Int32}  (hX : OkX X cX6_isWord RX6 4 85) (hn : Fit X shC nC) (hR : RetI X shC nC .boolean (M, res))  : ∀ (n : Nat) (x0 : Nat) (x1 : Nat) (x2 : Int32),  f_X6_isWord_28 M  n x0 x1 x2 = some res → GoN X shC nC 0 0 M 28 [some (.ref (X.B + x0)), some (.ref (X.cA (1000 + x1))), some (.int (x2))] [] := by
  intro n
  induction n with
  | zero => intro x0 x1 x2 hf; cases hf
  | succ n ih => intro x0 x1 x2 hf; exact t_s_X6_isWord_28 hX hn hR  ih x0 x1 x2 hf
theorem t_X6_isWord {l : Launch} {M : Mem} {a0 a1 : Nat} {res : Int32} (hf : f_X6_isWord M a0 a1 = some res) : Ci l yX6_isWord cX6_isWord 3 (some .boolean) 4 85 shC nC (fun K B => [.ref (B + a0), .ref (K (1000 + a1))]) M (M, res) := by
  refine met_i (own := RX6) (lo := fun K B => [some (.ref (B + a0)), some (.ref (K (1000 + a1))), none]) (by decide +kernel) rfl shC_ok (fun _ _ => rfl) (fun _ _ => rfl) (fun _ _ => Nat.le_of_ble_eq_true rfl) (fun X hX hn hlx hR => ?_)
  refine r_aload_n (i := 0) hX e_X6_isWord_0 rfl rfl ?_
  obtain ⟨g1, hf⟩ := gd_s hf
  refine r_getI hX hn e_X6_isWord_1 fl_6_39 rfl g1 ?_
  refine r_iconst hX e_X6_isWord_4 ic_1 ?_
  refine r_icmp_ne hX e_X6_isWord_5 (fun hc => ?_) (fun hc => ?_)
  · have hf := ite_f hf hc
    refine r_iconst hX e_X6_isWord_24 ic_0 ?_
    exact r_zret hX hR rfl e_X6_isWord_25 (ro_s hf)
  · have hf := ite_t hf hc
    refine r_aload_n (i := 0) hX e_X6_isWord_8 rfl rfl ?_
    refine r_getI hX hn e_X6_isWord_9 fl_6_25 rfl g1 ?_
    refine r_aload_n (i := 0) hX e_X6_isWord_12 rfl rfl ?_
    refine r_getI hX hn e_X6_isWord_13 fl_6_230 rfl g1 ?_
    refine r_isub hX e_X6_isWord_16 ?_
    refine r_aload_n (i := 1) hX e_X6_isWord_17 rfl rfl ?_
    obtain ⟨g2, hf⟩ := gd_s hf
    refine r_cti (As := fun _ _ => []) hX hn (sB_s g2) (t_X23_length (sB_s g2)) e_X6_isWord_18 cw_X23_length cv_X23_length lk_6_235 ⟨Nat.le_of_ble_eq_true rfl, Nat.le_of_ble_eq_true rfl⟩ rfl rfl rfl (Nat.le_of_ble_eq_true rfl) ⟨Nat.zero_le _, Nat.zero_le _⟩ ?_
    refine r_icmp_eq hX e_X6_isWord_21 (fun hc => ?_) (fun hc => ?_)
    · have hf := ite_t hf hc
      refine r_iconst hX e_X6_isWord_26 ic_0 ?_
      refine r_istore_n (i := 2) hX e_X6_isWord_27 rfl (Nat.le_of_ble_eq_true rfl) rfl ?_
      exact GoN.weak (t_X6_isWord_28 hX hn hR FU (a0) (a1) (0) hf) rfl (sb_s (sb_s (sb_s (sb_z _))))
    · have hf := ite_f hf hc
      refine r_iconst hX e_X6_isWord_24 ic_0 ?_
      exact r_zret hX hR rfl e_X6_isWord_25 (ro_s hf)
def f_X6_refuse (M : Mem) (a0 : Nat) (a1 : Int32) : Option (Mem) :=
  gd (oB shC a0 6) <| if (gI M a0 2) = 0 then nx (sI M a0 2 a1) fun M2 => nx (sI M2 a0 3 (gI M2 a0 4)) fun M3 => some M3 else some M
theorem t_X6_refuse {l : Launch} {M : Mem} {a0 : Nat} {a1 : Int32} {res : Mem} (hf : f_X6_refuse M a0 a1 = some res) : Cv l yX6_refuse cX6_refuse 2 none 0 0 shC nC (fun K B => [.ref (B + a0), .int a1]) M res := by
  refine met_v (own := RX6) (lo := fun K B => [some (.ref (B + a0)), some (.int a1)]) (by decide +kernel) rfl shC_ok (fun _ _ => rfl) (fun _ _ => rfl) (fun _ _ => Nat.le_of_ble_eq_true rfl) (fun X hX hn hlx hR => ?_)
  refine r_aload_n (i := 0) hX e_X6_refuse_0 rfl rfl ?_
  obtain ⟨g1, hf⟩ := gd_s hf
  refine r_getI hX hn e_X6_refuse_1 fl_6_19 rfl g1 ?_
  refine r_if_ne hX e_X6_refuse_4 (fun hc => ?_) (fun hc => ?_)
  · have hf := ite_f hf hc
    exact r_ret hX hR e_X6_refuse_20 hf
  · have hf := ite_t hf hc
    refine r_aload_n (i := 0) hX e_X6_refuse_7 rfl rfl ?_
    refine r_iload_n (i := 1) hX e_X6_refuse_8 rfl rfl ?_
    obtain ⟨M2, hM2, hf⟩ := nx_s hf
    refine r_putI hX hn hM2 e_X6_refuse_9 fl_6_19 fp_6_2 rfl g1 ?_
    refine r_aload_n (i := 0) hX e_X6_refuse_12 rfl rfl ?_
    refine r_aload_n (i := 0) hX e_X6_refuse_13 rfl rfl ?_
    refine r_getI hX hn e_X6_refuse_14 fl_6_230 rfl g1 ?_
    obtain ⟨M3, hM3, hf⟩ := nx_s hf
    refine r_putI hX hn hM3 e_X6_refuse_17 fl_6_22 fp_6_3 rfl g1 ?_
    exact r_ret hX hR e_X6_refuse_20 hf
def f_X6_word (M : Mem) (a0 : Nat) (a1 : Nat) : Option (Mem) :=
  gd (oB shC a0 6) <| bd (f_X6_isWord M a0 a1) fun v2 => if v2 = 0 then bd (f_X6_refuse M a0 1) fun u4 => bd (f_X6_next u4 a0) fun u5 => some u5 else bd (f_X6_next M a0) fun u3 => some u3
theorem t_X6_word {l : Launch} {M : Mem} {a0 a1 : Nat} {res : Mem} (hf : f_X6_word M a0 a1 = some res) : Cv l yX6_word cX6_word 2 none 5 107 shC nC (fun K B => [.ref (B + a0), .ref (K (1000 + a1))]) M res := by
  refine met_v (own := RX6) (lo := fun K B => [some (.ref (B + a0)), some (.ref (K (1000 + a1)))]) (by decide +kernel) rfl shC_ok (fun _ _ => rfl) (fun _ _ => rfl) (fun _ _ => Nat.le_of_ble_eq_true rfl) (fun X hX hn hlx hR => ?_)
  refine r_aload_n (i := 0) hX e_X6_word_0 rfl rfl ?_
  refine r_aload_n (i := 1) hX e_X6_word_1 rfl rfl ?_
  obtain ⟨g1, hf⟩ := gd_s hf
  obtain ⟨v2, hv2, hf⟩ := bd_s hf
  refine r_cvi (As := fun K B => [.ref (K (1000 + a1))]) hX hn (t_X6_isWord hv2) e_X6_word_2 cw_X6_isWord cv_X6_isWord lk_6_54 ⟨Nat.le_of_ble_eq_true rfl, Nat.le_of_ble_eq_true rfl⟩ (ci := 6) rfl rfl (Nat.le_of_ble_eq_true rfl) g1 rfl rfl (Nat.le_of_ble_eq_true rfl) ⟨Nat.zero_le _, Nat.zero_le _⟩ ?_
  refine r_if_ne hX e_X6_word_5 (fun hc => ?_) (fun hc => ?_)
  · have hf := ite_f hf hc
    refine r_aload_n (i := 0) hX e_X6_word_13 rfl rfl ?_
    obtain ⟨u3, hu3, hf⟩ := bd_s hf
    refine r_cvv (As := fun K B => []) hX hn (t_X6_next hu3) e_X6_word_14 cw_X6_next cv_X6_next lk_6_36 ⟨Nat.le_of_ble_eq_true rfl, Nat.le_of_ble_eq_true rfl⟩ (ci := 6) rfl rfl (Nat.le_of_ble_eq_true rfl) g1 rfl rfl (Nat.le_of_ble_eq_true rfl) ⟨Nat.zero_le _, Nat.zero_le _⟩ ?_
    exact r_ret hX hR e_X6_word_17 hf
  · have hf := ite_t hf hc
    refine r_aload_n (i := 0) hX e_X6_word_8 rfl rfl ?_
    refine r_iconst hX e_X6_word_9 ic_1 ?_
    obtain ⟨u4, hu4, hf⟩ := bd_s hf
    refine r_cvv (As := fun K B => [.int (1)]) hX hn (t_X6_refuse hu4) e_X6_word_10 cw_X6_refuse cv_X6_refuse lk_6_81 ⟨Nat.le_of_ble_eq_true rfl, Nat.le_of_ble_eq_true rfl⟩ (ci := 6) rfl rfl (Nat.le_of_ble_eq_true rfl) g1 rfl rfl (Nat.le_of_ble_eq_true rfl) ⟨Nat.zero_le _, Nat.zero_le _⟩ ?_
    refine r_aload_n (i := 0) hX e_X6_word_13 rfl rfl ?_
    obtain ⟨u5, hu5, hf⟩ := bd_s hf
    refine r_cvv (As := fun K B => []) hX hn (t_X6_next hu5) e_X6_word_14 cw_X6_next cv_X6_next lk_6_36 ⟨Nat.le_of_ble_eq_true rfl, Nat.le_of_ble_eq_true rfl⟩ (ci := 6) rfl rfl (Nat.le_of_ble_eq_true rfl) g1 rfl rfl (Nat.le_of_ble_eq_true rfl) ⟨Nat.zero_le _, Nat.zero_le _⟩ ?_
    exact r_ret hX hR e_X6_word_17 hf
def f_X6_numberHere (M : Mem) (a0 : Nat) (a1 : Int32) (a2 : Int32) : Option (Mem × Int32) :=
  gd (oB shC a0 6) <| if (gI M a0 6) = 2 then if (gI M a0 7) < a1 then bd (f_X6_refuse M a0 2) fun u2 => some (u2, a1) else if (gI M a0 7) ≤ a2 then some (M, (gI M a0 7)) else bd (f_X6_refuse M a0 2) fun u3 => some (u3, a1) else bd (f_X6_refuse M a0 1) fun u4 => some (u4, a1)
theorem t_X6_numberHere {l : Launch} {M : Mem} {a0 : Nat} {a1 a2 : Int32} {res : Mem × Int32} (hf : f_X6_numberHere M a0 a1 a2 = some res) : Ci l yX6_numberHere cX6_numberHere 3 (some .int) 1 21 shC nC (fun K B => [.ref (B + a0), .int a1, .int a2]) M res := by
  refine met_i (own := RX6) (lo := fun K B => [some (.ref (B + a0)), some (.int a1), some (.int a2)]) (by decide +kernel) rfl shC_ok (fun _ _ => rfl) (fun _ _ => rfl) (fun _ _ => Nat.le_of_ble_eq_true rfl) (fun X hX hn hlx hR => ?_)
  refine r_aload_n (i := 0) hX e_X6_numberHere_0 rfl rfl ?_
  obtain ⟨g1, hf⟩ := gd_s hf
  refine r_getI hX hn e_X6_numberHere_1 fl_6_39 rfl g1 ?_
  refine r_iconst hX e_X6_numberHere_4 ic_2 ?_
  refine r_icmp_eq hX e_X6_numberHere_5 (fun hc => ?_) (fun hc => ?_)
  · have hf := ite_t hf hc
    refine r_aload_n (i := 0) hX e_X6_numberHere_15 rfl rfl ?_
    refine r_getI hX hn e_X6_numberHere_16 fl_6_232 rfl g1 ?_
    refine r_iload_n (i := 1) hX e_X6_numberHere_19 rfl rfl ?_
    refine r_icmp_lt hX e_X6_numberHere_20 (fun hc => ?_) (fun hc => ?_)
    · have hf := ite_t hf hc
      refine r_aload_n (i := 0) hX e_X6_numberHere_31 rfl rfl ?_
      refine r_iconst hX e_X6_numberHere_32 ic_2 ?_
      obtain ⟨u2, hu2, hf⟩ := bd_s hf
      refine r_cvv (As := fun K B => [.int (2)]) hX hn (t_X6_refuse hu2) e_X6_numberHere_33 cw_X6_refuse cv_X6_refuse lk_6_81 ⟨Nat.le_of_ble_eq_true rfl, Nat.le_of_ble_eq_true rfl⟩ (ci := 6) rfl rfl (Nat.le_of_ble_eq_true rfl) g1 rfl rfl (Nat.le_of_ble_eq_true rfl) ⟨Nat.zero_le _, Nat.zero_le _⟩ ?_
      refine r_iload_n (i := 1) hX e_X6_numberHere_36 rfl rfl ?_
      exact r_iret hX hR e_X6_numberHere_37 hf
    · have hf := ite_f hf hc
      refine r_aload_n (i := 0) hX e_X6_numberHere_23 rfl rfl ?_
      refine r_getI hX hn e_X6_numberHere_24 fl_6_232 rfl g1 ?_
      refine r_iload_n (i := 2) hX e_X6_numberHere_27 rfl rfl ?_
      refine r_icmp_le hX e_X6_numberHere_28 (fun hc => ?_) (fun hc => ?_)
      · have hf := ite_t hf hc
        refine r_aload_n (i := 0) hX e_X6_numberHere_38 rfl rfl ?_
        refine r_getI hX hn e_X6_numberHere_39 fl_6_232 rfl g1 ?_
        exact r_iret hX hR e_X6_numberHere_42 hf
      · have hf := ite_f hf hc
        refine r_aload_n (i := 0) hX e_X6_numberHere_31 rfl rfl ?_
        refine r_iconst hX e_X6_numberHere_32 ic_2 ?_
        obtain ⟨u3, hu3, hf⟩ := bd_s hf
        refine r_cvv (As := fun K B => [.int (2)]) hX hn (t_X6_refuse hu3) e_X6_numberHere_33 cw_X6_refuse cv_X6_refuse lk_6_81 ⟨Nat.le_of_ble_eq_true rfl, Nat.le_of_ble_eq_true rfl⟩ (ci := 6) rfl rfl (Nat.le_of_ble_eq_true rfl) g1 rfl rfl (Nat.le_of_ble_eq_true rfl) ⟨Nat.zero_le _, Nat.zero_le _⟩ ?_
        refine r_iload_n (i := 1) hX e_X6_numberHere_36 rfl rfl ?_
        exact r_iret hX hR e_X6_numberHere_37 hf
  · have hf := ite_f hf hc
    refine r_aload_n (i := 0) hX e_X6_numberHere_8 rfl rfl ?_
    refine r_iconst hX e_X6_numberHere_9 ic_1 ?_
    obtain ⟨u4, hu4, hf⟩ := bd_s hf
    refine r_cvv (As := fun K B => [.int (1)]) hX hn (t_X6_refuse hu4) e_X6_numberHere_10 cw_X6_refuse cv_X6_refuse lk_6_81 ⟨Nat.le_of_ble_eq_true rfl, Nat.le_of_ble_eq_true rfl⟩ (ci := 6) rfl rfl (Nat.le_of_ble_eq_true rfl) g1 rfl rfl (Nat.le_of_ble_eq_true rfl) ⟨Nat.zero_le _, Nat.zero_le _⟩ ?_
    refine r_iload_n (i := 1) hX e_X6_numberHere_13 rfl rfl ?_
    exact r_iret hX hR e_X6_numberHere_14 hf
def f_X6_number (M : Mem) (a0 : Nat) (a1 : Int32) (a2 : Int32) : Option (Mem × Int32) :=
  gd (oB shC a0 6) <| bd (f_X6_numberHere M a0 a1 a2) fun u2 => bd (f_X6_next u2.1 a0) fun u3 => some (u3, u2.2)
theorem t_X6_number {l : Launch} {M : Mem} {a0 : Nat} {a1 a2 : Int32} {res : Mem × Int32} (hf : f_X6_number M a0 a1 a2 = some res) : Ci l yX6_number cX6_number 4 (some .int) 3 61 shC nC (fun K B => [.ref (B + a0), .int a1, .int a2]) M res := by
  refine met_i (own := RX6) (lo := fun K B => [some (.ref (B + a0)), some (.int a1), some (.int a2), none]) (by decide +kernel) rfl shC_ok (fun _ _ => rfl) (fun _ _ => rfl) (fun _ _ => Nat.le_of_ble_eq_true rfl) (fun X hX hn hlx hR => ?_)
  refine r_aload_n (i := 0) hX e_X6_number_0 rfl rfl ?_
  refine r_iload_n (i := 1) hX e_X6_number_1 rfl rfl ?_
  refine r_iload_n (i := 2) hX e_X6_number_2 rfl rfl ?_
  obtain ⟨g1, hf⟩ := gd_s hf
  obtain ⟨u2, hu2, hf⟩ := bd_s hf
  refine r_cvi (As := fun K B => [.int (a1), .int (a2)]) hX hn (t_X6_numberHere hu2) e_X6_number_3 cw_X6_numberHere cv_X6_numberHere lk_6_210 ⟨Nat.le_of_ble_eq_true rfl, Nat.le_of_ble_eq_true rfl⟩ (ci := 6) rfl rfl (Nat.le_of_ble_eq_true rfl) g1 rfl rfl (Nat.le_of_ble_eq_true rfl) ⟨Nat.zero_le _, Nat.zero_le _⟩ ?_
  refine r_istore_n (i := 3) hX e_X6_number_6 rfl (Nat.le_of_ble_eq_true rfl) rfl ?_
  refine r_aload_n (i := 0) hX e_X6_number_7 rfl rfl ?_
  obtain ⟨u3, hu3, hf⟩ := bd_s hf
  refine r_cvv (As := fun K B => []) hX hn (t_X6_next hu3) e_X6_number_8 cw_X6_next cv_X6_next lk_6_36 ⟨Nat.le_of_ble_eq_true rfl, Nat.le_of_ble_eq_true rfl⟩ (ci := 6) rfl rfl (Nat.le_of_ble_eq_true rfl) g1 rfl rfl (Nat.le_of_ble_eq_true rfl) ⟨Nat.zero_le _, Nat.zero_le _⟩ ?_
  refine r_iload_n (i := 3) hX e_X6_number_11 rfl rfl ?_
  exact r_iret hX hR e_X6_number_12 hf
def f_X6_readMarket (M : Mem) (a0 : Nat) (a1 : Nat) : Option (Mem) :=
  gd (oB shC a0 6) <| bd (f_X6_word M a0 5) fun u2 => bd (f_X6_word u2 a0 6) fun u3 => bd (f_X6_number u3 a0 2 12) fun u4 => gd (oB shC a1 4) <| nx (sI u4.1 a1 0 u4.2) fun M6 => bd (f_X6_word M6 a0 7) fun u7 => bd (f_X6_number u7 a0 1 60) fun u8 => nx (sI u8.1 a1 1 u8.2) fun M9 => some M9
theorem t_X6_readMarket {l : Launch} {M : Mem} {a0 a1 : Nat} {res : Mem} (hf : f_X6_readMarket M a0 a1 = some res) : Cv l yX6_readMarket cX6_readMarket 2 none 6 128 shC nC (fun K B => [.ref (B + a0), .ref (B + a1)]) M res := by
  refine met_v (own := RX6) (lo := fun K B => [some (.ref (B + a0)), some (.ref (B + a1))]) (by decide +kernel) rfl shC_ok (fun _ _ => rfl) (fun _ _ => rfl) (fun _ _ => Nat.le_of_ble_eq_true rfl) (fun X hX hn hlx hR => ?_)
  refine r_aload_n (i := 0) hX e_X6_readMarket_0 rfl rfl ?_
  refine r_ldcS (i := 5) hX rfl e_X6_readMarket_1 rfl ?_
  obtain ⟨g1, hf⟩ := gd_s hf
  obtain ⟨u2, hu2, hf⟩ := bd_s hf
  refine r_cvv (As := fun K B => [.ref (K (1000 + 5))]) hX hn (t_X6_word hu2) e_X6_readMarket_3 cw_X6_word cv_X6_word lk_6_90 ⟨Nat.le_of_ble_eq_true rfl, Nat.le_of_ble_eq_true rfl⟩ (ci := 6) rfl rfl (Nat.le_of_ble_eq_true rfl) g1 rfl rfl (Nat.le_of_ble_eq_true rfl) ⟨Nat.zero_le _, Nat.zero_le _⟩ ?_
  refine r_aload_n (i := 0) hX e_X6_readMarket_6 rfl rfl ?_
  refine r_ldcS (i := 6) hX rfl e_X6_readMarket_7 rfl ?_
  obtain ⟨u3, hu3, hf⟩ := bd_s hf
  refine r_cvv (As := fun K B => [.ref (K (1000 + 6))]) hX hn (t_X6_word hu3) e_X6_readMarket_9 cw_X6_word cv_X6_word lk_6_90 ⟨Nat.le_of_ble_eq_true rfl, Nat.le_of_ble_eq_true rfl⟩ (ci := 6) rfl rfl (Nat.le_of_ble_eq_true rfl) g1 rfl rfl (Nat.le_of_ble_eq_true rfl) ⟨Nat.zero_le _, Nat.zero_le _⟩ ?_
  refine r_aload_n (i := 1) hX e_X6_readMarket_12 rfl rfl ?_
  refine r_aload_n (i := 0) hX e_X6_readMarket_13 rfl rfl ?_
  refine r_iconst hX e_X6_readMarket_14 ic_2 ?_
  refine r_bipush hX e_X6_readMarket_15 bc_12 ?_
  obtain ⟨u4, hu4, hf⟩ := bd_s hf
  refine r_cvi (As := fun K B => [.int (2), .int (12)]) hX hn (t_X6_number hu4) e_X6_readMarket_17 cw_X6_number cv_X6_number lk_6_96 ⟨Nat.le_of_ble_eq_true rfl, Nat.le_of_ble_eq_true rfl⟩ (ci := 6) rfl rfl (Nat.le_of_ble_eq_true rfl) g1 rfl rfl (Nat.le_of_ble_eq_true rfl) ⟨Nat.zero_le _, Nat.zero_le _⟩ ?_
  obtain ⟨g5, hf⟩ := gd_s hf
  obtain ⟨M6, hM6, hf⟩ := nx_s hf
  refine r_putI hX hn hM6 e_X6_readMarket_20 fl_6_100 fp_4_0 rfl g5 ?_
  refine r_aload_n (i := 0) hX e_X6_readMarket_23 rfl rfl ?_
  refine r_ldcS (i := 7) hX rfl e_X6_readMarket_24 rfl ?_
  obtain ⟨u7, hu7, hf⟩ := bd_s hf
  refine r_cvv (As := fun K B => [.ref (K (1000 + 7))]) hX hn (t_X6_word hu7) e_X6_readMarket_26 cw_X6_word cv_X6_word lk_6_90 ⟨Nat.le_of_ble_eq_true rfl, Nat.le_of_ble_eq_true rfl⟩ (ci := 6) rfl rfl (Nat.le_of_ble_eq_true rfl) g1 rfl rfl (Nat.le_of_ble_eq_true rfl) ⟨Nat.zero_le _, Nat.zero_le _⟩ ?_
  refine r_aload_n (i := 1) hX e_X6_readMarket_29 rfl rfl ?_
  refine r_aload_n (i := 0) hX e_X6_readMarket_30 rfl rfl ?_
  refine r_iconst hX e_X6_readMarket_31 ic_1 ?_
  refine r_bipush hX e_X6_readMarket_32 bc_60 ?_
  obtain ⟨u8, hu8, hf⟩ := bd_s hf
  refine r_cvi (As := fun K B => [.int (1), .int (60)]) hX hn (t_X6_number hu8) e_X6_readMarket_34 cw_X6_number cv_X6_number lk_6_96 ⟨Nat.le_of_ble_eq_true rfl, Nat.le_of_ble_eq_true rfl⟩ (ci := 6) rfl rfl (Nat.le_of_ble_eq_true rfl) g1 rfl rfl (Nat.le_of_ble_eq_true rfl) ⟨Nat.zero_le _, Nat.zero_le _⟩ ?_
  obtain ⟨M9, hM9, hf⟩ := nx_s hf
  refine r_putI hX hn hM9 e_X6_readMarket_37 fl_6_104 fp_4_1 rfl g5 ?_
  exact r_ret hX hR e_X6_readMarket_40 hf
def f_X6_isFull_10  (M : Mem) (x1 : Int32) (x2 : Int32) : Option (Mem × Int32) :=
  if x1 < x2 then some (M, 0) else some (M, 1)
def f_X6_isFull (M : Mem) (a0 : Nat) (a1 : Int32) (a2 : Int32) : Option (Mem × Int32) :=
  if a1 < a2 then f_X6_isFull_10 M (a1) (a2) else gd (oB shC a0 6) <| bd (f_X6_refuse M a0 3) fun u2 => f_X6_isFull_10 u2 (a1) (a2)
theorem t_X6_isFull_10 {X : Cx} {res : Mem × Int32}  (hX : OkX X cX6_isFull RX6 1 21) (hn : Fit X shC nC) (hR : RetI X shC nC .boolean res)  (M : Mem) (x1 : Int32) (x2 : Int32) (hf : f_X6_isFull_10  M x1 x2 = some res) : GoN X shC nC 0 0 M 10 [none, some (.int (x1)), some (.int (x2))] [] := by
  refine r_iload_n (i := 1) hX e_X6_isFull_10 rfl rfl ?_
  refine r_iload_n (i := 2) hX e_X6_isFull_11 rfl rfl ?_
  refine r_icmp_lt hX e_X6_isFull_12 (fun hc => ?_) (fun hc => ?_)
  · have hf := ite_t hf hc
    refine r_iconst hX e_X6_isFull_19 ic_0 ?_
    exact r_zret hX hR rfl e_X6_isFull_20 hf
  · have hf := ite_f hf hc
    refine r_iconst hX e_X6_isFull_15 ic_1 ?_
    refine r_goto hX e_X6_isFull_16 ?_
    exact r_zret hX hR rfl e_X6_isFull_20 hf
theorem t_X6_isFull {l : Launch} {M : Mem} {a0 : Nat} {a1 a2 : Int32} {res : Mem × Int32} (hf : f_X6_isFull M a0 a1 a2 = some res) : Ci l yX6_isFull cX6_isFull 3 (some .boolean) 1 21 shC nC (fun K B => [.ref (B + a0), .int a1, .int a2]) M res := by
  refine met_i (own := RX6) (lo := fun K B => [some (.ref (B + a0)), some (.int a1), some (.int a2)]) (by decide +kernel) rfl shC_ok (fun _ _ => rfl) (fun _ _ => rfl) (fun _ _ => Nat.le_of_ble_eq_true rfl) (fun X hX hn hlx hR => ?_)
  refine r_iload_n (i := 1) hX e_X6_isFull_0 rfl rfl ?_
  refine r_iload_n (i := 2) hX e_X6_isFull_1 rfl rfl ?_
  refine r_icmp_lt hX e_X6_isFull_2 (fun hc => ?_) (fun hc => ?_)
  · have hf := ite_t hf hc
    exact GoN.weak (t_X6_isFull_10 hX hn hR M (a1) (a2) hf) rfl (sb_n (sb_s (sb_s (sb_z _))))
  · have hf := ite_f hf hc
    refine r_aload_n (i := 0) hX e_X6_isFull_5 rfl rfl ?_
    refine r_iconst hX e_X6_isFull_6 ic_3 ?_
    obtain ⟨g1, hf⟩ := gd_s hf
    obtain ⟨u2, hu2, hf⟩ := bd_s hf
    refine r_cvv (As := fun K B => [.int (3)]) hX hn (t_X6_refuse hu2) e_X6_isFull_7 cw_X6_refuse cv_X6_refuse lk_6_81 ⟨Nat.le_of_ble_eq_true rfl, Nat.le_of_ble_eq_true rfl⟩ (ci := 6) rfl rfl (Nat.le_of_ble_eq_true rfl) g1 rfl rfl (Nat.le_of_ble_eq_true rfl) ⟨Nat.zero_le _, Nat.zero_le _⟩ ?_
    exact GoN.weak (t_X6_isFull_10 hX hn hR u2 (a1) (a2) hf) rfl (sb_n (sb_s (sb_s (sb_z _))))
def f_X6_readRing_75  (M : Mem) (x0 : Nat) (x1 : Nat) (x2 : Nat) : Option (Mem) :=
  gd (oB shC x0 6) <| bd (f_X6_next M x0) fun u2 => gd (oB shC x2 7) <| nx (sL u2 x2 2 0) fun M4 => gd (oB shC x1 4) <| nx (sI M4 x1 3 ((gI M4 x1 3) + 1)) fun M6 => some M6
def f_X6_readRing (M : Mem) (a0 : Nat) (a1 : Nat) : Option (Mem) :=
  gd (oB shC a1 4) <| gd (oB shC a0 6) <| bd (f_X6_isFull M a0 (gI M a1 3) 3) fun u3 => if u3.2 = 0 then bd (gR u3.1 a1 6) fun r4 => gd (aB shC r4 4 (gI u3.1 a1 3)) <| bd (gR u3.1 r4 ((gI u3.1 a1 3) : Int32).toNatClampNeg) fun r6 => bd (f_X6_next u3.1 a0) fun u7 => bd (f_X6_word u7 a0 8) fun u8 => bd (f_X6_number u8 a0 0 60) fun u9 => gd (oB shC r6 7) <| nx (sI u9.1 r6 0 u9.2) fun M11 => bd (f_X6_isWord M11 a0 9) fun v12 => gd (isZ v12) <| nx (sI M11 r6 1 v12) fun M14 => if (gI M14 r6 1) = 0 then bd (f_X6_isWord M14 a0 10) fun v15 => if v15 = 0 then bd (f_X6_refuse M14 a0 1) fun u16 => f_X6_readRing_75 u16 (a0) (a1) (r6) else f_X6_readRing_75 M14 (a0) (a1) (r6) else f_X6_readRing_75 M14 (a0) (a1) (r6) else some u3.1
theorem t_X6_readRing_75 {X : Cx} {res : Mem}  (hX : OkX X cX6_readRing RX6 6 128) (hn : Fit X shC nC) (hR : RetV X shC nC res)  (M : Mem) (x0 : Nat) (x1 : Nat) (x2 : Nat) (hf : f_X6_readRing_75  M x0 x1 x2 = some res) : GoN X shC nC 0 0 M 75 [some (.ref (X.B + x0)), some (.ref (X.B + x1)), some (.ref (X.B + x2))] [] := by
  refine r_aload_n (i := 0) hX e_X6_readRing_75 rfl rfl ?_
  obtain ⟨g1, hf⟩ := gd_s hf
  obtain ⟨u2, hu2, hf⟩ := bd_s hf
  refine r_cvv (As := fun K B => []) hX hn (t_X6_next hu2) e_X6_readRing_76 cw_X6_next cv_X6_next lk_6_36 ⟨Nat.le_of_ble_eq_true rfl, Nat.le_of_ble_eq_true rfl⟩ (ci := 6) rfl rfl (Nat.le_of_ble_eq_true rfl) g1 rfl rfl (Nat.le_of_ble_eq_true rfl) ⟨Nat.zero_le _, Nat.zero_le _⟩ ?_
  refine r_aload_n (i := 2) hX e_X6_readRing_79 rfl rfl ?_
  refine r_lconst hX e_X6_readRing_80 lc_0 ?_
  obtain ⟨g3, hf⟩ := gd_s hf
  obtain ⟨M4, hM4, hf⟩ := nx_s hf
  refine r_putL hX hn hM4 e_X6_readRing_81 fl_6_130 fp_7_2 rfl g3 ?_
  refine r_aload_n (i := 1) hX e_X6_readRing_84 rfl rfl ?_
  refine r_dup hX e_X6_readRing_85 rfl ?_
  obtain ⟨g5, hf⟩ := gd_s hf
  refine r_getI hX hn e_X6_readRing_86 fl_6_106 rfl g5 ?_
  refine r_iconst hX e_X6_readRing_89 ic_1 ?_
  refine r_iadd hX e_X6_readRing_90 ?_
  obtain ⟨M6, hM6, hf⟩ := nx_s hf
  refine r_putI hX hn hM6 e_X6_readRing_91 fl_6_106 fp_4_3 rfl g5 ?_
  exact r_ret hX hR e_X6_readRing_94 hf
theorem t_X6_readRing {l : Launch} {M : Mem} {a0 a1 : Nat} {res : Mem} (hf : f_X6_readRing M a0 a1 = some res) : Cv l yX6_readRing cX6_readRing 3 none 6 128 shC nC (fun K B => [.ref (B + a0), .ref (B + a1)]) M res := by
  refine met_v (own := RX6) (lo := fun K B => [some (.ref (B + a0)), some (.ref (B + a1)), none]) (by decide +kernel) rfl shC_ok (fun _ _ => rfl) (fun _ _ => rfl) (fun _ _ => Nat.le_of_ble_eq_true rfl) (fun X hX hn hlx hR => ?_)
  refine r_aload_n (i := 0) hX e_X6_readRing_0 rfl rfl ?_
  refine r_aload_n (i := 1) hX e_X6_readRing_1 rfl rfl ?_
  obtain ⟨g1, hf⟩ := gd_s hf
  refine r_getI hX hn e_X6_readRing_2 fl_6_106 rfl g1 ?_
  refine r_iconst hX e_X6_readRing_5 ic_3 ?_
  obtain ⟨g2, hf⟩ := gd_s hf
  obtain ⟨u3, hu3, hf⟩ := bd_s hf
  refine r_cvi (As := fun K B => [.int ((gI M a1 3)), .int (3)]) hX hn (t_X6_isFull hu3) e_X6_readRing_6 cw_X6_isFull cv_X6_isFull lk_6_109 ⟨Nat.le_of_ble_eq_true rfl, Nat.le_of_ble_eq_true rfl⟩ (ci := 6) rfl rfl (Nat.le_of_ble_eq_true rfl) g2 rfl rfl (Nat.le_of_ble_eq_true rfl) ⟨Nat.zero_le _, Nat.zero_le _⟩ ?_
  refine r_if_eq hX e_X6_readRing_9 (fun hc => ?_) (fun hc => ?_)
  · have hf := ite_t hf hc
    refine r_aload_n (i := 1) hX e_X6_readRing_13 rfl rfl ?_
    obtain ⟨r4, hr4, hf⟩ := bd_s hf
    refine r_getR hX hn e_X6_readRing_14 fl_6_113 rfl g1 hr4 ?_
    refine r_aload_n (i := 1) hX e_X6_readRing_17 rfl rfl ?_
    refine r_getI hX hn e_X6_readRing_18 fl_6_106 rfl g1 ?_
    obtain ⟨g5, hf⟩ := gd_s hf
    obtain ⟨r6, hr6, hf⟩ := bd_s hf
    refine r_aald hX hn e_X6_readRing_21 g5 (Nat.le_of_ble_eq_true rfl) rfl rfl rfl hr6 ?_
    refine r_astore_n (i := 2) hX e_X6_readRing_22 rfl (Nat.le_of_ble_eq_true rfl) rfl ?_
    refine r_aload_n (i := 0) hX e_X6_readRing_23 rfl rfl ?_
    obtain ⟨u7, hu7, hf⟩ := bd_s hf
    refine r_cvv (As := fun K B => []) hX hn (t_X6_next hu7) e_X6_readRing_24 cw_X6_next cv_X6_next lk_6_36 ⟨Nat.le_of_ble_eq_true rfl, Nat.le_of_ble_eq_true rfl⟩ (ci := 6) rfl rfl (Nat.le_of_ble_eq_true rfl) g2 rfl rfl (Nat.le_of_ble_eq_true rfl) ⟨Nat.zero_le _, Nat.zero_le _⟩ ?_
    refine r_aload_n (i := 0) hX e_X6_readRing_27 rfl rfl ?_
    refine r_ldcS (i := 8) hX rfl e_X6_readRing_28 rfl ?_
    obtain ⟨u8, hu8, hf⟩ := bd_s hf
    refine r_cvv (As := fun K B => [.ref (K (1000 + 8))]) hX hn (t_X6_word hu8) e_X6_readRing_30 cw_X6_word cv_X6_word lk_6_90 ⟨Nat.le_of_ble_eq_true rfl, Nat.le_of_ble_eq_true rfl⟩ (ci := 6) rfl rfl (Nat.le_of_ble_eq_true rfl) g2 rfl rfl (Nat.le_of_ble_eq_true rfl) ⟨Nat.zero_le _, Nat.zero_le _⟩ ?_
    refine r_aload_n (i := 2) hX e_X6_readRing_33 rfl rfl ?_
    refine r_aload_n (i := 0) hX e_X6_readRing_34 rfl rfl ?_
    refine r_iconst hX e_X6_readRing_35 ic_0 ?_
    refine r_bipush hX e_X6_readRing_36 bc_60 ?_
    obtain ⟨u9, hu9, hf⟩ := bd_s hf
    refine r_cvi (As := fun K B => [.int (0), .int (60)]) hX hn (t_X6_number hu9) e_X6_readRing_38 cw_X6_number cv_X6_number lk_6_96 ⟨Nat.le_of_ble_eq_true rfl, Nat.le_of_ble_eq_true rfl⟩ (ci := 6) rfl rfl (Nat.le_of_ble_eq_true rfl) g2 rfl rfl (Nat.le_of_ble_eq_true rfl) ⟨Nat.zero_le _, Nat.zero_le _⟩ ?_
    obtain ⟨g10, hf⟩ := gd_s hf
    obtain ⟨M11, hM11, hf⟩ := nx_s hf
    refine r_putI hX hn hM11 e_X6_readRing_41 fl_6_119 fp_7_0 rfl g10 ?_
    refine r_aload_n (i := 2) hX e_X6_readRing_44 rfl rfl ?_
    refine r_aload_n (i := 0) hX e_X6_readRing_45 rfl rfl ?_
    refine r_ldcS (i := 9) hX rfl e_X6_readRing_46 rfl ?_
    obtain ⟨v12, hv12, hf⟩ := bd_s hf
    refine r_cvi (As := fun K B => [.ref (K (1000 + 9))]) hX hn (t_X6_isWord hv12) e_X6_readRing_48 cw_X6_isWord cv_X6_isWord lk_6_54 ⟨Nat.le_of_ble_eq_true rfl, Nat.le_of_ble_eq_true rfl⟩ (ci := 6) rfl rfl (Nat.le_of_ble_eq_true rfl) g2 rfl rfl (Nat.le_of_ble_eq_true rfl) ⟨Nat.zero_le _, Nat.zero_le _⟩ ?_
    obtain ⟨g13, hf⟩ := gd_s hf
    obtain ⟨M14, hM14, hf⟩ := nx_s hf
    refine r_putZ hX hn hM14 g13 e_X6_readRing_51 fl_6_125 fp_7_1 rfl g10 ?_
    refine r_aload_n (i := 2) hX e_X6_readRing_54 rfl rfl ?_
    refine r_getI hX hn e_X6_readRing_55 fl_6_125 rfl g10 ?_
    refine r_if_ne hX e_X6_readRing_58 (fun hc => ?_) (fun hc => ?_)
    · have hf := ite_f hf hc
      exact GoN.weak (t_X6_readRing_75 hX hn hR M14 (a0) (a1) (r6) hf) rfl (sb_s (sb_s (sb_s (sb_z _))))
    · have hf := ite_t hf hc
      refine r_aload_n (i := 0) hX e_X6_readRing_61 rfl rfl ?_
      refine r_ldcS (i := 10) hX rfl e_X6_readRing_62 rfl ?_
      obtain ⟨v15, hv15, hf⟩ := bd_s hf
      refine r_cvi (As := fun K B => [.ref (K (1000 + 10))]) hX hn (t_X6_isWord hv15) e_X6_readRing_64 cw_X6_isWord cv_X6_isWord lk_6_54 ⟨Nat.le_of_ble_eq_true rfl, Nat.le_of_ble_eq_true rfl⟩ (ci := 6) rfl rfl (Nat.le_of_ble_eq_true rfl) g2 rfl rfl (Nat.le_of_ble_eq_true rfl) ⟨Nat.zero_le _, Nat.zero_le _⟩ ?_
      refine r_if_ne hX e_X6_readRing_67 (fun hc => ?_) (fun hc => ?_)
      · have hf := ite_f hf hc
        exact GoN.weak (t_X6_readRing_75 hX hn hR M14 (a0) (a1) (r6) hf) rfl (sb_s (sb_s (sb_s (sb_z _))))
      · have hf := ite_t hf hc
        refine r_aload_n (i := 0) hX e_X6_readRing_70 rfl rfl ?_
        refine r_iconst hX e_X6_readRing_71 ic_1 ?_
        obtain ⟨u16, hu16, hf⟩ := bd_s hf
        refine r_cvv (As := fun K B => [.int (1)]) hX hn (t_X6_refuse hu16) e_X6_readRing_72 cw_X6_refuse cv_X6_refuse lk_6_81 ⟨Nat.le_of_ble_eq_true rfl, Nat.le_of_ble_eq_true rfl⟩ (ci := 6) rfl rfl (Nat.le_of_ble_eq_true rfl) g2 rfl rfl (Nat.le_of_ble_eq_true rfl) ⟨Nat.zero_le _, Nat.zero_le _⟩ ?_
        exact GoN.weak (t_X6_readRing_75 hX hn hR u16 (a0) (a1) (r6) hf) rfl (sb_s (sb_s (sb_s (sb_z _))))
  · have hf := ite_f hf hc
    exact r_ret hX hR e_X6_readRing_12 hf
def f_X6_readKind (M : Mem) (a0 : Nat) (a1 : Nat) : Option (Mem) :=
  gd (oB shC a0 6) <| bd (f_X6_isWord M a0 15) fun v2 => if v2 = 0 then bd (f_X6_isWord M a0 16) fun v3 => if v3 = 0 then bd (f_X6_isWord M a0 17) fun v4 => if v4 = 0 then bd (f_X6_refuse M a0 1) fun u5 => bd (f_X6_next u5 a0) fun u6 => some u6 else gd (oB shC a1 9) <| nx (sI M a1 5 2) fun M8 => bd (f_X6_next M8 a0) fun u9 => some u9 else gd (oB shC a1 9) <| nx (sI M a1 5 1) fun M11 => bd (f_X6_next M11 a0) fun u12 => some u12 else gd (oB shC a1 9) <| nx (sI M a1 5 0) fun M14 => bd (f_X6_next M14 a0) fun u15 => some u15
theorem t_X6_readKind {l : Launch} {M : Mem} {a0 a1 : Nat} {res : Mem} (hf : f_X6_readKind M a0 a1 = some res) : Cv l yX6_readKind cX6_readKind 2 none 5 107 shC nC (fun K B => [.ref (B + a0), .ref (B + a1)]) M res := by
  refine met_v (own := RX6) (lo := fun K B => [some (.ref (B + a0)), some (.ref (B + a1))]) (by decide +kernel) rfl shC_ok (fun _ _ => rfl) (fun _ _ => rfl) (fun _ _ => Nat.le_of_ble_eq_true rfl) (fun X hX hn hlx hR => ?_)
  refine r_aload_n (i := 0) hX e_X6_readKind_0 rfl rfl ?_
  refine r_ldcS (i := 15) hX rfl e_X6_readKind_1 rfl ?_
  obtain ⟨g1, hf⟩ := gd_s hf
  obtain ⟨v2, hv2, hf⟩ := bd_s hf
  refine r_cvi (As := fun K B => [.ref (K (1000 + 15))]) hX hn (t_X6_isWord hv2) e_X6_readKind_3 cw_X6_isWord cv_X6_isWord lk_6_54 ⟨Nat.le_of_ble_eq_true rfl, Nat.le_of_ble_eq_true rfl⟩ (ci := 6) rfl rfl (Nat.le_of_ble_eq_true rfl) g1 rfl rfl (Nat.le_of_ble_eq_true rfl) ⟨Nat.zero_le _, Nat.zero_le _⟩ ?_
  refine r_if_eq hX e_X6_readKind_6 (fun hc => ?_) (fun hc => ?_)
  · have hf := ite_t hf hc
    refine r_aload_n (i := 0) hX e_X6_readKind_17 rfl rfl ?_
    refine r_ldcS (i := 16) hX rfl e_X6_readKind_18 rfl ?_
    obtain ⟨v3, hv3, hf⟩ := bd_s hf
    refine r_cvi (As := fun K B => [.ref (K (1000 + 16))]) hX hn (t_X6_isWord hv3) e_X6_readKind_20 cw_X6_isWord cv_X6_isWord lk_6_54 ⟨Nat.le_of_ble_eq_true rfl, Nat.le_of_ble_eq_true rfl⟩ (ci := 6) rfl rfl (Nat.le_of_ble_eq_true rfl) g1 rfl rfl (Nat.le_of_ble_eq_true rfl) ⟨Nat.zero_le _, Nat.zero_le _⟩ ?_
    refine r_if_eq hX e_X6_readKind_23 (fun hc => ?_) (fun hc => ?_)
    · have hf := ite_t hf hc
      refine r_aload_n (i := 0) hX e_X6_readKind_34 rfl rfl ?_
      refine r_ldcS (i := 17) hX rfl e_X6_readKind_35 rfl ?_
      obtain ⟨v4, hv4, hf⟩ := bd_s hf
      refine r_cvi (As := fun K B => [.ref (K (1000 + 17))]) hX hn (t_X6_isWord hv4) e_X6_readKind_37 cw_X6_isWord cv_X6_isWord lk_6_54 ⟨Nat.le_of_ble_eq_true rfl, Nat.le_of_ble_eq_true rfl⟩ (ci := 6) rfl rfl (Nat.le_of_ble_eq_true rfl) g1 rfl rfl (Nat.le_of_ble_eq_true rfl) ⟨Nat.zero_le _, Nat.zero_le _⟩ ?_
      refine r_if_eq hX e_X6_readKind_40 (fun hc => ?_) (fun hc => ?_)
      · have hf := ite_t hf hc
        refine r_aload_n (i := 0) hX e_X6_readKind_51 rfl rfl ?_
        refine r_iconst hX e_X6_readKind_52 ic_1 ?_
        obtain ⟨u5, hu5, hf⟩ := bd_s hf
        refine r_cvv (As := fun K B => [.int (1)]) hX hn (t_X6_refuse hu5) e_X6_readKind_53 cw_X6_refuse cv_X6_refuse lk_6_81 ⟨Nat.le_of_ble_eq_true rfl, Nat.le_of_ble_eq_true rfl⟩ (ci := 6) rfl rfl (Nat.le_of_ble_eq_true rfl) g1 rfl rfl (Nat.le_of_ble_eq_true rfl) ⟨Nat.zero_le _, Nat.zero_le _⟩ ?_
        refine r_aload_n (i := 0) hX e_X6_readKind_56 rfl rfl ?_
        obtain ⟨u6, hu6, hf⟩ := bd_s hf
        refine r_cvv (As := fun K B => []) hX hn (t_X6_next hu6) e_X6_readKind_57 cw_X6_next cv_X6_next lk_6_36 ⟨Nat.le_of_ble_eq_true rfl, Nat.le_of_ble_eq_true rfl⟩ (ci := 6) rfl rfl (Nat.le_of_ble_eq_true rfl) g1 rfl rfl (Nat.le_of_ble_eq_true rfl) ⟨Nat.zero_le _, Nat.zero_le _⟩ ?_
        exact r_ret hX hR e_X6_readKind_60 hf
      · have hf := ite_f hf hc
        refine r_aload_n (i := 1) hX e_X6_readKind_43 rfl rfl ?_
        refine r_iconst hX e_X6_readKind_44 ic_2 ?_
        obtain ⟨g7, hf⟩ := gd_s hf
        obtain ⟨M8, hM8, hf⟩ := nx_s hf
        refine r_putI hX hn hM8 e_X6_readKind_45 fl_6_166 fp_9_5 rfl g7 ?_
        refine r_goto hX e_X6_readKind_48 ?_
        refine r_aload_n (i := 0) hX e_X6_readKind_56 rfl rfl ?_
        obtain ⟨u9, hu9, hf⟩ := bd_s hf
        refine r_cvv (As := fun K B => []) hX hn (t_X6_next hu9) e_X6_readKind_57 cw_X6_next cv_X6_next lk_6_36 ⟨Nat.le_of_ble_eq_true rfl, Nat.le_of_ble_eq_true rfl⟩ (ci := 6) rfl rfl (Nat.le_of_ble_eq_true rfl) g1 rfl rfl (Nat.le_of_ble_eq_true rfl) ⟨Nat.zero_le _, Nat.zero_le _⟩ ?_
        exact r_ret hX hR e_X6_readKind_60 hf
    · have hf := ite_f hf hc
      refine r_aload_n (i := 1) hX e_X6_readKind_26 rfl rfl ?_
      refine r_iconst hX e_X6_readKind_27 ic_1 ?_
      obtain ⟨g10, hf⟩ := gd_s hf
      obtain ⟨M11, hM11, hf⟩ := nx_s hf
      refine r_putI hX hn hM11 e_X6_readKind_28 fl_6_166 fp_9_5 rfl g10 ?_
      refine r_goto hX e_X6_readKind_31 ?_
      refine r_aload_n (i := 0) hX e_X6_readKind_56 rfl rfl ?_
      obtain ⟨u12, hu12, hf⟩ := bd_s hf
      refine r_cvv (As := fun K B => []) hX hn (t_X6_next hu12) e_X6_readKind_57 cw_X6_next cv_X6_next lk_6_36 ⟨Nat.le_of_ble_eq_true rfl, Nat.le_of_ble_eq_true rfl⟩ (ci := 6) rfl rfl (Nat.le_of_ble_eq_true rfl) g1 rfl rfl (Nat.le_of_ble_eq_true rfl) ⟨Nat.zero_le _, Nat.zero_le _⟩ ?_
      exact r_ret hX hR e_X6_readKind_60 hf
  · have hf := ite_f hf hc
    refine r_aload_n (i := 1) hX e_X6_readKind_9 rfl rfl ?_
    refine r_iconst hX e_X6_readKind_10 ic_0 ?_
    obtain ⟨g13, hf⟩ := gd_s hf
    obtain ⟨M14, hM14, hf⟩ := nx_s hf
    refine r_putI hX hn hM14 e_X6_readKind_11 fl_6_166 fp_9_5 rfl g13 ?_
    refine r_goto hX e_X6_readKind_14 ?_
    refine r_aload_n (i := 0) hX e_X6_readKind_56 rfl rfl ?_
    obtain ⟨u15, hu15, hf⟩ := bd_s hf
    refine r_cvv (As := fun K B => []) hX hn (t_X6_next hu15) e_X6_readKind_57 cw_X6_next cv_X6_next lk_6_36 ⟨Nat.le_of_ble_eq_true rfl, Nat.le_of_ble_eq_true rfl⟩ (ci := 6) rfl rfl (Nat.le_of_ble_eq_true rfl) g1 rfl rfl (Nat.le_of_ble_eq_true rfl) ⟨Nat.zero_le _, Nat.zero_le _⟩ ?_
    exact r_ret hX hR e_X6_readKind_60 hf
def f_X6_readStall_138  (M : Mem) (x1 : Nat) (s0 : Int32) (s1 : Nat) : Option (Mem) :=
  gd (oB shC s1 9) <| nx (sI M s1 6 s0) fun M2 => gd (oB shC x1 4) <| nx (sI M2 x1 4 ((gI M2 x1 4) + 1)) fun M4 => some M4
def f_X6_readStall (M : Mem) (a0 : Nat) (a1 : Nat) : Option (Mem) :=
  gd (oB shC a1 4) <| gd (oB shC a0 6) <| bd (f_X6_isFull M a0 (gI M a1 4) 8) fun u3 => if u3.2 = 0 then bd (gR u3.1 a1 7) fun r4 => gd (aB shC r4 5 (gI u3.1 a1 4)) <| bd (gR u3.1 r4 ((gI u3.1 a1 4) : Int32).toNatClampNeg) fun r6 => bd (f_X6_next u3.1 a0) fun u7 => bd (f_X6_number u7 a0 0 ((gI u7 a1 3) - 1)) fun u8 => gd (oB shC r6 9) <| nx (sI u8.1 r6 0 u8.2) fun M10 => bd (f_X6_word M10 a0 11) fun u11 => bd (f_X6_number u11 a0 0 ((gI u11 a1 0) - 1)) fun u12 => nx (sI u12.1 r6 1 u12.2) fun M13 => bd (f_X6_word M13 a0 12) fun u14 => bd (f_X6_number u14 a0 0 5) fun u15 => nx (sI u15.1 r6 2 u15.2) fun M16 => bd (f_X6_word M16 a0 13) fun u17 => bd (f_X6_number u17 a0 0 20) fun u18 => nx (sI u18.1 r6 3 u18.2) fun M19 => bd (f_X6_word M19 a0 14) fun u20 => bd (f_X6_number u20 a0 0 99) fun u21 => nx (sI u21.1 r6 4 u21.2) fun M22 => bd (f_X6_readKind M22 a0 r6) fun u23 => if (gI u23 r6 5) = 0 then f_X6_readStall_138 u23 (a1) (0) (r6) else bd (f_X6_number u23 a0 1 20) fun u24 => f_X6_readStall_138 u24.1 (a1) (u24.2) (r6) else some u3.1
theorem t_X6_readStall_138 {X : Cx} {res : Mem}  (hX : OkX X cX6_readStall RX6 6 128) (hn : Fit X shC nC) (hR : RetV X shC nC res)  (M : Mem) (x1 : Nat) (s0 : Int32) (s1 : Nat) (hf : f_X6_readStall_138  M x1 s0 s1 = some res) : GoN X shC nC 0 0 M 138 [none, some (.ref (X.B + x1)), none] [.int (s0), .ref (X.B + s1)] := by
  obtain ⟨g1, hf⟩ := gd_s hf
  obtain ⟨M2, hM2, hf⟩ := nx_s hf
  refine r_putI hX hn hM2 e_X6_readStall_138 fl_6_169 fp_9_6 rfl g1 ?_
  refine r_aload_n (i := 1) hX e_X6_readStall_141 rfl rfl ?_
  refine r_dup hX e_X6_readStall_142 rfl ?_
  obtain ⟨g3, hf⟩ := gd_s hf
  refine r_getI hX hn e_X6_readStall_143 fl_6_133 rfl g3 ?_
  refine r_iconst hX e_X6_readStall_146 ic_1 ?_
  refine r_iadd hX e_X6_readStall_147 ?_
  obtain ⟨M4, hM4, hf⟩ := nx_s hf
  refine r_putI hX hn hM4 e_X6_readStall_148 fl_6_133 fp_4_4 rfl g3 ?_
  exact r_ret hX hR e_X6_readStall_151 hf
theorem t_X6_readStall {l : Launch} {M : Mem} {a0 a1 : Nat} {res : Mem} (hf : f_X6_readStall M a0 a1 = some res) : Cv l yX6_readStall cX6_readStall 3 none 6 128 shC nC (fun K B => [.ref (B + a0), .ref (B + a1)]) M res := by
  refine met_v (own := RX6) (lo := fun K B => [some (.ref (B + a0)), some (.ref (B + a1)), none]) (by decide +kernel) rfl shC_ok (fun _ _ => rfl) (fun _ _ => rfl) (fun _ _ => Nat.le_of_ble_eq_true rfl) (fun X hX hn hlx hR => ?_)
  refine r_aload_n (i := 0) hX e_X6_readStall_0 rfl rfl ?_
  refine r_aload_n (i := 1) hX e_X6_readStall_1 rfl rfl ?_
  obtain ⟨g1, hf⟩ := gd_s hf
  refine r_getI hX hn e_X6_readStall_2 fl_6_133 rfl g1 ?_
  refine r_bipush hX e_X6_readStall_5 bc_8 ?_
  obtain ⟨g2, hf⟩ := gd_s hf
  obtain ⟨u3, hu3, hf⟩ := bd_s hf
  refine r_cvi (As := fun K B => [.int ((gI M a1 4)), .int (8)]) hX hn (t_X6_isFull hu3) e_X6_readStall_7 cw_X6_isFull cv_X6_isFull lk_6_109 ⟨Nat.le_of_ble_eq_true rfl, Nat.le_of_ble_eq_true rfl⟩ (ci := 6) rfl rfl (Nat.le_of_ble_eq_true rfl) g2 rfl rfl (Nat.le_of_ble_eq_true rfl) ⟨Nat.zero_le _, Nat.zero_le _⟩ ?_
  refine r_if_eq hX e_X6_readStall_10 (fun hc => ?_) (fun hc => ?_)
  · have hf := ite_t hf hc
    refine r_aload_n (i := 1) hX e_X6_readStall_14 rfl rfl ?_
    obtain ⟨r4, hr4, hf⟩ := bd_s hf
    refine r_getR hX hn e_X6_readStall_15 fl_6_136 rfl g1 hr4 ?_
    refine r_aload_n (i := 1) hX e_X6_readStall_18 rfl rfl ?_
    refine r_getI hX hn e_X6_readStall_19 fl_6_133 rfl g1 ?_
    obtain ⟨g5, hf⟩ := gd_s hf
    obtain ⟨r6, hr6, hf⟩ := bd_s hf
    refine r_aald hX hn e_X6_readStall_22 g5 (Nat.le_of_ble_eq_true rfl) rfl rfl rfl hr6 ?_
    refine r_astore_n (i := 2) hX e_X6_readStall_23 rfl (Nat.le_of_ble_eq_true rfl) rfl ?_
    refine r_aload_n (i := 0) hX e_X6_readStall_24 rfl rfl ?_
    obtain ⟨u7, hu7, hf⟩ := bd_s hf
    refine r_cvv (As := fun K B => []) hX hn (t_X6_next hu7) e_X6_readStall_25 cw_X6_next cv_X6_next lk_6_36 ⟨Nat.le_of_ble_eq_true rfl, Nat.le_of_ble_eq_true rfl⟩ (ci := 6) rfl rfl (Nat.le_of_ble_eq_true rfl) g2 rfl rfl (Nat.le_of_ble_eq_true rfl) ⟨Nat.zero_le _, Nat.zero_le _⟩ ?_
    refine r_aload_n (i := 2) hX e_X6_readStall_28 rfl rfl ?_
    refine r_aload_n (i := 0) hX e_X6_readStall_29 rfl rfl ?_
    refine r_iconst hX e_X6_readStall_30 ic_0 ?_
    refine r_aload_n (i := 1) hX e_X6_readStall_31 rfl rfl ?_
    refine r_getI hX hn e_X6_readStall_32 fl_6_106 rfl g1 ?_
    refine r_iconst hX e_X6_readStall_35 ic_1 ?_
    refine r_isub hX e_X6_readStall_36 ?_
    obtain ⟨u8, hu8, hf⟩ := bd_s hf
    refine r_cvi (As := fun K B => [.int (0), .int (((gI u7 a1 3) - 1))]) hX hn (t_X6_number hu8) e_X6_readStall_37 cw_X6_number cv_X6_number lk_6_96 ⟨Nat.le_of_ble_eq_true rfl, Nat.le_of_ble_eq_true rfl⟩ (ci := 6) rfl rfl (Nat.le_of_ble_eq_true rfl) g2 rfl rfl (Nat.le_of_ble_eq_true rfl) ⟨Nat.zero_le _, Nat.zero_le _⟩ ?_
    obtain ⟨g9, hf⟩ := gd_s hf
    obtain ⟨M10, hM10, hf⟩ := nx_s hf
    refine r_putI hX hn hM10 e_X6_readStall_40 fl_6_140 fp_9_0 rfl g9 ?_
    refine r_aload_n (i := 0) hX e_X6_readStall_43 rfl rfl ?_
    refine r_ldcS (i := 11) hX rfl e_X6_readStall_44 rfl ?_
    obtain ⟨u11, hu11, hf⟩ := bd_s hf
    refine r_cvv (As := fun K B => [.ref (K (1000 + 11))]) hX hn (t_X6_word hu11) e_X6_readStall_46 cw_X6_word cv_X6_word lk_6_90 ⟨Nat.le_of_ble_eq_true rfl, Nat.le_of_ble_eq_true rfl⟩ (ci := 6) rfl rfl (Nat.le_of_ble_eq_true rfl) g2 rfl rfl (Nat.le_of_ble_eq_true rfl) ⟨Nat.zero_le _, Nat.zero_le _⟩ ?_
    refine r_aload_n (i := 2) hX e_X6_readStall_49 rfl rfl ?_
    refine r_aload_n (i := 0) hX e_X6_readStall_50 rfl rfl ?_
    refine r_iconst hX e_X6_readStall_51 ic_0 ?_
    refine r_aload_n (i := 1) hX e_X6_readStall_52 rfl rfl ?_
    refine r_getI hX hn e_X6_readStall_53 fl_6_100 rfl g1 ?_
    refine r_iconst hX e_X6_readStall_56 ic_1 ?_
    refine r_isub hX e_X6_readStall_57 ?_
    obtain ⟨u12, hu12, hf⟩ := bd_s hf
    refine r_cvi (As := fun K B => [.int (0), .int (((gI u11 a1 0) - 1))]) hX hn (t_X6_number hu12) e_X6_readStall_58 cw_X6_number cv_X6_number lk_6_96 ⟨Nat.le_of_ble_eq_true rfl, Nat.le_of_ble_eq_true rfl⟩ (ci := 6) rfl rfl (Nat.le_of_ble_eq_true rfl) g2 rfl rfl (Nat.le_of_ble_eq_true rfl) ⟨Nat.zero_le _, Nat.zero_le _⟩ ?_
    obtain ⟨M13, hM13, hf⟩ := nx_s hf
    refine r_putI hX hn hM13 e_X6_readStall_61 fl_6_146 fp_9_1 rfl g9 ?_
    refine r_aload_n (i := 0) hX e_X6_readStall_64 rfl rfl ?_
    refine r_ldcS (i := 12) hX rfl e_X6_readStall_65 rfl ?_
    obtain ⟨u14, hu14, hf⟩ := bd_s hf
    refine r_cvv (As := fun K B => [.ref (K (1000 + 12))]) hX hn (t_X6_word hu14) e_X6_readStall_67 cw_X6_word cv_X6_word lk_6_90 ⟨Nat.le_of_ble_eq_true rfl, Nat.le_of_ble_eq_true rfl⟩ (ci := 6) rfl rfl (Nat.le_of_ble_eq_true rfl) g2 rfl rfl (Nat.le_of_ble_eq_true rfl) ⟨Nat.zero_le _, Nat.zero_le _⟩ ?_
    refine r_aload_n (i := 2) hX e_X6_readStall_70 rfl rfl ?_
    refine r_aload_n (i := 0) hX e_X6_readStall_71 rfl rfl ?_
    refine r_iconst hX e_X6_readStall_72 ic_0 ?_
    refine r_iconst hX e_X6_readStall_73 ic_5 ?_
    obtain ⟨u15, hu15, hf⟩ := bd_s hf
    refine r_cvi (As := fun K B => [.int (0), .int (5)]) hX hn (t_X6_number hu15) e_X6_readStall_74 cw_X6_number cv_X6_number lk_6_96 ⟨Nat.le_of_ble_eq_true rfl, Nat.le_of_ble_eq_true rfl⟩ (ci := 6) rfl rfl (Nat.le_of_ble_eq_true rfl) g2 rfl rfl (Nat.le_of_ble_eq_true rfl) ⟨Nat.zero_le _, Nat.zero_le _⟩ ?_
    obtain ⟨M16, hM16, hf⟩ := nx_s hf
    refine r_putI hX hn hM16 e_X6_readStall_77 fl_6_151 fp_9_2 rfl g9 ?_
    refine r_aload_n (i := 0) hX e_X6_readStall_80 rfl rfl ?_
    refine r_ldcS (i := 13) hX rfl e_X6_readStall_81 rfl ?_
    obtain ⟨u17, hu17, hf⟩ := bd_s hf
    refine r_cvv (As := fun K B => [.ref (K (1000 + 13))]) hX hn (t_X6_word hu17) e_X6_readStall_83 cw_X6_word cv_X6_word lk_6_90 ⟨Nat.le_of_ble_eq_true rfl, Nat.le_of_ble_eq_true rfl⟩ (ci := 6) rfl rfl (Nat.le_of_ble_eq_true rfl) g2 rfl rfl (Nat.le_of_ble_eq_true rfl) ⟨Nat.zero_le _, Nat.zero_le _⟩ ?_
    refine r_aload_n (i := 2) hX e_X6_readStall_86 rfl rfl ?_
    refine r_aload_n (i := 0) hX e_X6_readStall_87 rfl rfl ?_
    refine r_iconst hX e_X6_readStall_88 ic_0 ?_
    refine r_bipush hX e_X6_readStall_89 bc_20 ?_
    obtain ⟨u18, hu18, hf⟩ := bd_s hf
    refine r_cvi (As := fun K B => [.int (0), .int (20)]) hX hn (t_X6_number hu18) e_X6_readStall_91 cw_X6_number cv_X6_number lk_6_96 ⟨Nat.le_of_ble_eq_true rfl, Nat.le_of_ble_eq_true rfl⟩ (ci := 6) rfl rfl (Nat.le_of_ble_eq_true rfl) g2 rfl rfl (Nat.le_of_ble_eq_true rfl) ⟨Nat.zero_le _, Nat.zero_le _⟩ ?_
    obtain ⟨M19, hM19, hf⟩ := nx_s hf
    refine r_putI hX hn hM19 e_X6_readStall_94 fl_6_156 fp_9_3 rfl g9 ?_
    refine r_aload_n (i := 0) hX e_X6_readStall_97 rfl rfl ?_
    refine r_ldcS (i := 14) hX rfl e_X6_readStall_98 rfl ?_
    obtain ⟨u20, hu20, hf⟩ := bd_s hf
    refine r_cvv (As := fun K B => [.ref (K (1000 + 14))]) hX hn (t_X6_word hu20) e_X6_readStall_100 cw_X6_word cv_X6_word lk_6_90 ⟨Nat.le_of_ble_eq_true rfl, Nat.le_of_ble_eq_true rfl⟩ (ci := 6) rfl rfl (Nat.le_of_ble_eq_true rfl) g2 rfl rfl (Nat.le_of_ble_eq_true rfl) ⟨Nat.zero_le _, Nat.zero_le _⟩ ?_
    refine r_aload_n (i := 2) hX e_X6_readStall_103 rfl rfl ?_
    refine r_aload_n (i := 0) hX e_X6_readStall_104 rfl rfl ?_
    refine r_iconst hX e_X6_readStall_105 ic_0 ?_
    refine r_bipush hX e_X6_readStall_106 bc_99 ?_
    obtain ⟨u21, hu21, hf⟩ := bd_s hf
    refine r_cvi (As := fun K B => [.int (0), .int (99)]) hX hn (t_X6_number hu21) e_X6_readStall_108 cw_X6_number cv_X6_number lk_6_96 ⟨Nat.le_of_ble_eq_true rfl, Nat.le_of_ble_eq_true rfl⟩ (ci := 6) rfl rfl (Nat.le_of_ble_eq_true rfl) g2 rfl rfl (Nat.le_of_ble_eq_true rfl) ⟨Nat.zero_le _, Nat.zero_le _⟩ ?_
    obtain ⟨M22, hM22, hf⟩ := nx_s hf
    refine r_putI hX hn hM22 e_X6_readStall_111 fl_6_160 fp_9_4 rfl g9 ?_
    refine r_aload_n (i := 0) hX e_X6_readStall_114 rfl rfl ?_
    refine r_aload_n (i := 2) hX e_X6_readStall_115 rfl rfl ?_
    obtain ⟨u23, hu23, hf⟩ := bd_s hf
    refine r_cvv (As := fun K B => [.ref (B + r6)]) hX hn (t_X6_readKind hu23) e_X6_readStall_116 cw_X6_readKind cv_X6_readKind lk_6_162 ⟨Nat.le_of_ble_eq_true rfl, Nat.le_of_ble_eq_true rfl⟩ (ci := 6) rfl rfl (Nat.le_of_ble_eq_true rfl) g2 rfl rfl (Nat.le_of_ble_eq_true rfl) ⟨Nat.zero_le _, Nat.zero_le _⟩ ?_
    refine r_aload_n (i := 2) hX e_X6_readStall_119 rfl rfl ?_
    refine r_aload_n (i := 2) hX e_X6_readStall_120 rfl rfl ?_
    refine r_getI hX hn e_X6_readStall_121 fl_6_166 rfl g9 ?_
    refine r_if_ne hX e_X6_readStall_124 (fun hc => ?_) (fun hc => ?_)
    · have hf := ite_f hf hc
      refine r_aload_n (i := 0) hX e_X6_readStall_131 rfl rfl ?_
      refine r_iconst hX e_X6_readStall_132 ic_1 ?_
      refine r_bipush hX e_X6_readStall_133 bc_20 ?_
      obtain ⟨u24, hu24, hf⟩ := bd_s hf
      refine r_cvi (As := fun K B => [.int (1), .int (20)]) hX hn (t_X6_number hu24) e_X6_readStall_135 cw_X6_number cv_X6_number lk_6_96 ⟨Nat.le_of_ble_eq_true rfl, Nat.le_of_ble_eq_true rfl⟩ (ci := 6) rfl rfl (Nat.le_of_ble_eq_true rfl) g2 rfl rfl (Nat.le_of_ble_eq_true rfl) ⟨Nat.zero_le _, Nat.zero_le _⟩ ?_
      exact GoN.weak (t_X6_readStall_138 hX hn hR u24.1 (a1) (u24.2) (r6) hf) rfl (sb_n (sb_s (sb_n (sb_z _))))
    · have hf := ite_t hf hc
      refine r_iconst hX e_X6_readStall_127 ic_0 ?_
      refine r_goto hX e_X6_readStall_128 ?_
      exact GoN.weak (t_X6_readStall_138 hX hn hR u23 (a1) (0) (r6) hf) rfl (sb_n (sb_s (sb_n (sb_z _))))
  · have hf := ite_f hf hc
    exact r_ret hX hR e_X6_readStall_13 hf
def f_X6_readHabit (M : Mem) (a0 : Nat) (a1 : Nat) : Option (Mem) :=
  gd (oB shC a0 6) <| bd (f_X6_isWord M a0 20) fun v2 => if v2 = 0 then bd (f_X6_isWord M a0 21) fun v3 => if v3 = 0 then bd (f_X6_isWord M a0 22) fun v4 => if v4 = 0 then bd (f_X6_refuse M a0 1) fun u5 => bd (f_X6_next u5 a0) fun u6 => some u6 else gd (oB shC a1 1) <| nx (sI M a1 2 2) fun M8 => bd (f_X6_next M8 a0) fun u9 => some u9 else gd (oB shC a1 1) <| nx (sI M a1 2 1) fun M11 => bd (f_X6_next M11 a0) fun u12 => some u12 else gd (oB shC a1 1) <| nx (sI M a1 2 0) fun M14 => bd (f_X6_next M14 a0) fun u15 => some u15
theorem t_X6_readHabit {l : Launch} {M : Mem} {a0 a1 : Nat} {res : Mem} (hf : f_X6_readHabit M a0 a1 = some res) : Cv l yX6_readHabit cX6_readHabit 2 none 5 107 shC nC (fun K B => [.ref (B + a0), .ref (B + a1)]) M res := by
  refine met_v (own := RX6) (lo := fun K B => [some (.ref (B + a0)), some (.ref (B + a1))]) (by decide +kernel) rfl shC_ok (fun _ _ => rfl) (fun _ _ => rfl) (fun _ _ => Nat.le_of_ble_eq_true rfl) (fun X hX hn hlx hR => ?_)
  refine r_aload_n (i := 0) hX e_X6_readHabit_0 rfl rfl ?_
  refine r_ldcS (i := 20) hX rfl e_X6_readHabit_1 rfl ?_
  obtain ⟨g1, hf⟩ := gd_s hf
  obtain ⟨v2, hv2, hf⟩ := bd_s hf
  refine r_cvi (As := fun K B => [.ref (K (1000 + 20))]) hX hn (t_X6_isWord hv2) e_X6_readHabit_3 cw_X6_isWord cv_X6_isWord lk_6_54 ⟨Nat.le_of_ble_eq_true rfl, Nat.le_of_ble_eq_true rfl⟩ (ci := 6) rfl rfl (Nat.le_of_ble_eq_true rfl) g1 rfl rfl (Nat.le_of_ble_eq_true rfl) ⟨Nat.zero_le _, Nat.zero_le _⟩ ?_
  refine r_if_eq hX e_X6_readHabit_6 (fun hc => ?_) (fun hc => ?_)
  · have hf := ite_t hf hc
    refine r_aload_n (i := 0) hX e_X6_readHabit_17 rfl rfl ?_
    refine r_ldcS (i := 21) hX rfl e_X6_readHabit_18 rfl ?_
    obtain ⟨v3, hv3, hf⟩ := bd_s hf
    refine r_cvi (As := fun K B => [.ref (K (1000 + 21))]) hX hn (t_X6_isWord hv3) e_X6_readHabit_20 cw_X6_isWord cv_X6_isWord lk_6_54 ⟨Nat.le_of_ble_eq_true rfl, Nat.le_of_ble_eq_true rfl⟩ (ci := 6) rfl rfl (Nat.le_of_ble_eq_true rfl) g1 rfl rfl (Nat.le_of_ble_eq_true rfl) ⟨Nat.zero_le _, Nat.zero_le _⟩ ?_
    refine r_if_eq hX e_X6_readHabit_23 (fun hc => ?_) (fun hc => ?_)
    · have hf := ite_t hf hc
      refine r_aload_n (i := 0) hX e_X6_readHabit_34 rfl rfl ?_
      refine r_ldcS (i := 22) hX rfl e_X6_readHabit_35 rfl ?_
      obtain ⟨v4, hv4, hf⟩ := bd_s hf
      refine r_cvi (As := fun K B => [.ref (K (1000 + 22))]) hX hn (t_X6_isWord hv4) e_X6_readHabit_37 cw_X6_isWord cv_X6_isWord lk_6_54 ⟨Nat.le_of_ble_eq_true rfl, Nat.le_of_ble_eq_true rfl⟩ (ci := 6) rfl rfl (Nat.le_of_ble_eq_true rfl) g1 rfl rfl (Nat.le_of_ble_eq_true rfl) ⟨Nat.zero_le _, Nat.zero_le _⟩ ?_
      refine r_if_eq hX e_X6_readHabit_40 (fun hc => ?_) (fun hc => ?_)
      · have hf := ite_t hf hc
        refine r_aload_n (i := 0) hX e_X6_readHabit_51 rfl rfl ?_
        refine r_iconst hX e_X6_readHabit_52 ic_1 ?_
        obtain ⟨u5, hu5, hf⟩ := bd_s hf
        refine r_cvv (As := fun K B => [.int (1)]) hX hn (t_X6_refuse hu5) e_X6_readHabit_53 cw_X6_refuse cv_X6_refuse lk_6_81 ⟨Nat.le_of_ble_eq_true rfl, Nat.le_of_ble_eq_true rfl⟩ (ci := 6) rfl rfl (Nat.le_of_ble_eq_true rfl) g1 rfl rfl (Nat.le_of_ble_eq_true rfl) ⟨Nat.zero_le _, Nat.zero_le _⟩ ?_
        refine r_aload_n (i := 0) hX e_X6_readHabit_56 rfl rfl ?_
        obtain ⟨u6, hu6, hf⟩ := bd_s hf
        refine r_cvv (As := fun K B => []) hX hn (t_X6_next hu6) e_X6_readHabit_57 cw_X6_next cv_X6_next lk_6_36 ⟨Nat.le_of_ble_eq_true rfl, Nat.le_of_ble_eq_true rfl⟩ (ci := 6) rfl rfl (Nat.le_of_ble_eq_true rfl) g1 rfl rfl (Nat.le_of_ble_eq_true rfl) ⟨Nat.zero_le _, Nat.zero_le _⟩ ?_
        exact r_ret hX hR e_X6_readHabit_60 hf
      · have hf := ite_f hf hc
        refine r_aload_n (i := 1) hX e_X6_readHabit_43 rfl rfl ?_
        refine r_iconst hX e_X6_readHabit_44 ic_2 ?_
        obtain ⟨g7, hf⟩ := gd_s hf
        obtain ⟨M8, hM8, hf⟩ := nx_s hf
        refine r_putI hX hn hM8 e_X6_readHabit_45 fl_6_204 fp_1_2 rfl g7 ?_
        refine r_goto hX e_X6_readHabit_48 ?_
        refine r_aload_n (i := 0) hX e_X6_readHabit_56 rfl rfl ?_
        obtain ⟨u9, hu9, hf⟩ := bd_s hf
        refine r_cvv (As := fun K B => []) hX hn (t_X6_next hu9) e_X6_readHabit_57 cw_X6_next cv_X6_next lk_6_36 ⟨Nat.le_of_ble_eq_true rfl, Nat.le_of_ble_eq_true rfl⟩ (ci := 6) rfl rfl (Nat.le_of_ble_eq_true rfl) g1 rfl rfl (Nat.le_of_ble_eq_true rfl) ⟨Nat.zero_le _, Nat.zero_le _⟩ ?_
        exact r_ret hX hR e_X6_readHabit_60 hf
    · have hf := ite_f hf hc
      refine r_aload_n (i := 1) hX e_X6_readHabit_26 rfl rfl ?_
      refine r_iconst hX e_X6_readHabit_27 ic_1 ?_
      obtain ⟨g10, hf⟩ := gd_s hf
      obtain ⟨M11, hM11, hf⟩ := nx_s hf
      refine r_putI hX hn hM11 e_X6_readHabit_28 fl_6_204 fp_1_2 rfl g10 ?_
      refine r_goto hX e_X6_readHabit_31 ?_
      refine r_aload_n (i := 0) hX e_X6_readHabit_56 rfl rfl ?_
      obtain ⟨u12, hu12, hf⟩ := bd_s hf
      refine r_cvv (As := fun K B => []) hX hn (t_X6_next hu12) e_X6_readHabit_57 cw_X6_next cv_X6_next lk_6_36 ⟨Nat.le_of_ble_eq_true rfl, Nat.le_of_ble_eq_true rfl⟩ (ci := 6) rfl rfl (Nat.le_of_ble_eq_true rfl) g1 rfl rfl (Nat.le_of_ble_eq_true rfl) ⟨Nat.zero_le _, Nat.zero_le _⟩ ?_
      exact r_ret hX hR e_X6_readHabit_60 hf
  · have hf := ite_f hf hc
    refine r_aload_n (i := 1) hX e_X6_readHabit_9 rfl rfl ?_
    refine r_iconst hX e_X6_readHabit_10 ic_0 ?_
    obtain ⟨g13, hf⟩ := gd_s hf
    obtain ⟨M14, hM14, hf⟩ := nx_s hf
    refine r_putI hX hn hM14 e_X6_readHabit_11 fl_6_204 fp_1_2 rfl g13 ?_
    refine r_goto hX e_X6_readHabit_14 ?_
    refine r_aload_n (i := 0) hX e_X6_readHabit_56 rfl rfl ?_
    obtain ⟨u15, hu15, hf⟩ := bd_s hf
    refine r_cvv (As := fun K B => []) hX hn (t_X6_next hu15) e_X6_readHabit_57 cw_X6_next cv_X6_next lk_6_36 ⟨Nat.le_of_ble_eq_true rfl, Nat.le_of_ble_eq_true rfl⟩ (ci := 6) rfl rfl (Nat.le_of_ble_eq_true rfl) g1 rfl rfl (Nat.le_of_ble_eq_true rfl) ⟨Nat.zero_le _, Nat.zero_le _⟩ ?_
    exact r_ret hX hR e_X6_readHabit_60 hf
def f_X6_readBuyer (M : Mem) (a0 : Nat) (a1 : Nat) : Option (Mem) :=
  gd (oB shC a1 4) <| gd (oB shC a0 6) <| bd (f_X6_isFull M a0 (gI M a1 5) 6) fun u3 => if u3.2 = 0 then bd (gR u3.1 a1 8) fun r4 => gd (aB shC r4 6 (gI u3.1 a1 5)) <| bd (gR u3.1 r4 ((gI u3.1 a1 5) : Int32).toNatClampNeg) fun r6 => bd (f_X6_next u3.1 a0) fun u7 => bd (f_X6_word u7 a0 11) fun u8 => bd (f_X6_number u8 a0 0 ((gI u8 a1 0) - 1)) fun u9 => gd (oB shC r6 1) <| nx (sI u9.1 r6 0 u9.2) fun M11 => bd (f_X6_word M11 a0 18) fun u12 => bd (f_X6_number u12 a0 0 999) fun u13 => nx (sI u13.1 r6 1 u13.2) fun M14 => bd (f_X6_word M14 a0 19) fun u15 => bd (f_X6_readHabit u15 a0 r6) fun u16 => nx (sI u16 r6 3 0) fun M17 => nx (sI M17 a1 5 ((gI M17 a1 5) + 1)) fun M18 => some M18 else some u3.1
theorem t_X6_readBuyer {l : Launch} {M : Mem} {a0 a1 : Nat} {res : Mem} (hf : f_X6_readBuyer M a0 a1 = some res) : Cv l yX6_readBuyer cX6_readBuyer 3 none 6 128 shC nC (fun K B => [.ref (B + a0), .ref (B + a1)]) M res := by
  refine met_v (own := RX6) (lo := fun K B => [some (.ref (B + a0)), some (.ref (B + a1)), none]) (by decide +kernel) rfl shC_ok (fun _ _ => rfl) (fun _ _ => rfl) (fun _ _ => Nat.le_of_ble_eq_true rfl) (fun X hX hn hlx hR => ?_)
  refine r_aload_n (i := 0) hX e_X6_readBuyer_0 rfl rfl ?_
  refine r_aload_n (i := 1) hX e_X6_readBuyer_1 rfl rfl ?_
  obtain ⟨g1, hf⟩ := gd_s hf
  refine r_getI hX hn e_X6_readBuyer_2 fl_6_178 rfl g1 ?_
  refine r_bipush hX e_X6_readBuyer_5 bc_6 ?_
  obtain ⟨g2, hf⟩ := gd_s hf
  obtain ⟨u3, hu3, hf⟩ := bd_s hf
  refine r_cvi (As := fun K B => [.int ((gI M a1 5)), .int (6)]) hX hn (t_X6_isFull hu3) e_X6_readBuyer_7 cw_X6_isFull cv_X6_isFull lk_6_109 ⟨Nat.le_of_ble_eq_true rfl, Nat.le_of_ble_eq_true rfl⟩ (ci := 6) rfl rfl (Nat.le_of_ble_eq_true rfl) g2 rfl rfl (Nat.le_of_ble_eq_true rfl) ⟨Nat.zero_le _, Nat.zero_le _⟩ ?_
  refine r_if_eq hX e_X6_readBuyer_10 (fun hc => ?_) (fun hc => ?_)
  · have hf := ite_t hf hc
    refine r_aload_n (i := 1) hX e_X6_readBuyer_14 rfl rfl ?_
    obtain ⟨r4, hr4, hf⟩ := bd_s hf
    refine r_getR hX hn e_X6_readBuyer_15 fl_6_181 rfl g1 hr4 ?_
    refine r_aload_n (i := 1) hX e_X6_readBuyer_18 rfl rfl ?_
    refine r_getI hX hn e_X6_readBuyer_19 fl_6_178 rfl g1 ?_
    obtain ⟨g5, hf⟩ := gd_s hf
    obtain ⟨r6, hr6, hf⟩ := bd_s hf
    refine r_aald hX hn e_X6_readBuyer_22 g5 (Nat.le_of_ble_eq_true rfl) rfl rfl rfl hr6 ?_
    refine r_astore_n (i := 2) hX e_X6_readBuyer_23 rfl (Nat.le_of_ble_eq_true rfl) rfl ?_
    refine r_aload_n (i := 0) hX e_X6_readBuyer_24 rfl rfl ?_
    obtain ⟨u7, hu7, hf⟩ := bd_s hf
    refine r_cvv (As := fun K B => []) hX hn (t_X6_next hu7) e_X6_readBuyer_25 cw_X6_next cv_X6_next lk_6_36 ⟨Nat.le_of_ble_eq_true rfl, Nat.le_of_ble_eq_true rfl⟩ (ci := 6) rfl rfl (Nat.le_of_ble_eq_true rfl) g2 rfl rfl (Nat.le_of_ble_eq_true rfl) ⟨Nat.zero_le _, Nat.zero_le _⟩ ?_
    refine r_aload_n (i := 0) hX e_X6_readBuyer_28 rfl rfl ?_
    refine r_ldcS (i := 11) hX rfl e_X6_readBuyer_29 rfl ?_
    obtain ⟨u8, hu8, hf⟩ := bd_s hf
    refine r_cvv (As := fun K B => [.ref (K (1000 + 11))]) hX hn (t_X6_word hu8) e_X6_readBuyer_31 cw_X6_word cv_X6_word lk_6_90 ⟨Nat.le_of_ble_eq_true rfl, Nat.le_of_ble_eq_true rfl⟩ (ci := 6) rfl rfl (Nat.le_of_ble_eq_true rfl) g2 rfl rfl (Nat.le_of_ble_eq_true rfl) ⟨Nat.zero_le _, Nat.zero_le _⟩ ?_
    refine r_aload_n (i := 2) hX e_X6_readBuyer_34 rfl rfl ?_
    refine r_aload_n (i := 0) hX e_X6_readBuyer_35 rfl rfl ?_
    refine r_iconst hX e_X6_readBuyer_36 ic_0 ?_
    refine r_aload_n (i := 1) hX e_X6_readBuyer_37 rfl rfl ?_
    refine r_getI hX hn e_X6_readBuyer_38 fl_6_100 rfl g1 ?_
    refine r_iconst hX e_X6_readBuyer_41 ic_1 ?_
    refine r_isub hX e_X6_readBuyer_42 ?_
    obtain ⟨u9, hu9, hf⟩ := bd_s hf
    refine r_cvi (As := fun K B => [.int (0), .int (((gI u8 a1 0) - 1))]) hX hn (t_X6_number hu9) e_X6_readBuyer_43 cw_X6_number cv_X6_number lk_6_96 ⟨Nat.le_of_ble_eq_true rfl, Nat.le_of_ble_eq_true rfl⟩ (ci := 6) rfl rfl (Nat.le_of_ble_eq_true rfl) g2 rfl rfl (Nat.le_of_ble_eq_true rfl) ⟨Nat.zero_le _, Nat.zero_le _⟩ ?_
    obtain ⟨g10, hf⟩ := gd_s hf
    obtain ⟨M11, hM11, hf⟩ := nx_s hf
    refine r_putI hX hn hM11 e_X6_readBuyer_46 fl_6_185 fp_1_0 rfl g10 ?_
    refine r_aload_n (i := 0) hX e_X6_readBuyer_49 rfl rfl ?_
    refine r_ldcS (i := 18) hX rfl e_X6_readBuyer_50 rfl ?_
    obtain ⟨u12, hu12, hf⟩ := bd_s hf
    refine r_cvv (As := fun K B => [.ref (K (1000 + 18))]) hX hn (t_X6_word hu12) e_X6_readBuyer_52 cw_X6_word cv_X6_word lk_6_90 ⟨Nat.le_of_ble_eq_true rfl, Nat.le_of_ble_eq_true rfl⟩ (ci := 6) rfl rfl (Nat.le_of_ble_eq_true rfl) g2 rfl rfl (Nat.le_of_ble_eq_true rfl) ⟨Nat.zero_le _, Nat.zero_le _⟩ ?_
    refine r_aload_n (i := 2) hX e_X6_readBuyer_55 rfl rfl ?_
    refine r_aload_n (i := 0) hX e_X6_readBuyer_56 rfl rfl ?_
    refine r_iconst hX e_X6_readBuyer_57 ic_0 ?_
    refine r_sipush hX e_X6_readBuyer_58 sc_999 ?_
    obtain ⟨u13, hu13, hf⟩ := bd_s hf
    refine r_cvi (As := fun K B => [.int (0), .int (999)]) hX hn (t_X6_number hu13) e_X6_readBuyer_61 cw_X6_number cv_X6_number lk_6_96 ⟨Nat.le_of_ble_eq_true rfl, Nat.le_of_ble_eq_true rfl⟩ (ci := 6) rfl rfl (Nat.le_of_ble_eq_true rfl) g2 rfl rfl (Nat.le_of_ble_eq_true rfl) ⟨Nat.zero_le _, Nat.zero_le _⟩ ?_
    obtain ⟨M14, hM14, hf⟩ := nx_s hf
    refine r_putI hX hn hM14 e_X6_readBuyer_64 fl_6_192 fp_1_1 rfl g10 ?_
    refine r_aload_n (i := 0) hX e_X6_readBuyer_67 rfl rfl ?_
    refine r_ldcS (i := 19) hX rfl e_X6_readBuyer_68 rfl ?_
    obtain ⟨u15, hu15, hf⟩ := bd_s hf
    refine r_cvv (As := fun K B => [.ref (K (1000 + 19))]) hX hn (t_X6_word hu15) e_X6_readBuyer_70 cw_X6_word cv_X6_word lk_6_90 ⟨Nat.le_of_ble_eq_true rfl, Nat.le_of_ble_eq_true rfl⟩ (ci := 6) rfl rfl (Nat.le_of_ble_eq_true rfl) g2 rfl rfl (Nat.le_of_ble_eq_true rfl) ⟨Nat.zero_le _, Nat.zero_le _⟩ ?_
    refine r_aload_n (i := 0) hX e_X6_readBuyer_73 rfl rfl ?_
    refine r_aload_n (i := 2) hX e_X6_readBuyer_74 rfl rfl ?_
    obtain ⟨u16, hu16, hf⟩ := bd_s hf
    refine r_cvv (As := fun K B => [.ref (B + r6)]) hX hn (t_X6_readHabit hu16) e_X6_readBuyer_75 cw_X6_readHabit cv_X6_readHabit lk_6_196 ⟨Nat.le_of_ble_eq_true rfl, Nat.le_of_ble_eq_true rfl⟩ (ci := 6) rfl rfl (Nat.le_of_ble_eq_true rfl) g2 rfl rfl (Nat.le_of_ble_eq_true rfl) ⟨Nat.zero_le _, Nat.zero_le _⟩ ?_
    refine r_aload_n (i := 2) hX e_X6_readBuyer_78 rfl rfl ?_
    refine r_iconst hX e_X6_readBuyer_79 ic_0 ?_
    obtain ⟨M17, hM17, hf⟩ := nx_s hf
    refine r_putI hX hn hM17 e_X6_readBuyer_80 fl_6_200 fp_1_3 rfl g10 ?_
    refine r_aload_n (i := 1) hX e_X6_readBuyer_83 rfl rfl ?_
    refine r_dup hX e_X6_readBuyer_84 rfl ?_
    refine r_getI hX hn e_X6_readBuyer_85 fl_6_178 rfl g1 ?_
    refine r_iconst hX e_X6_readBuyer_88 ic_1 ?_
    refine r_iadd hX e_X6_readBuyer_89 ?_
    obtain ⟨M18, hM18, hf⟩ := nx_s hf
    refine r_putI hX hn hM18 e_X6_readBuyer_90 fl_6_178 fp_4_5 rfl g1 ?_
    exact r_ret hX hR e_X6_readBuyer_93 hf
  · have hf := ite_f hf hc
    exact r_ret hX hR e_X6_readBuyer_13 hf
