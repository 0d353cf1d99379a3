def s_X21_fillI_5 (k5 : Mem → Nat → Int32 → Int32 → Int32 → Option (Mem)) (M : Mem) (x0 : Nat) (x1 : Int32) (x2 : Int32) (x3 : Int32) : Option (Mem) :=
  if x3 ≤ x2 then some M else gd (aB shC x0 0 x2) <| nx (sI M x0 (x2 : Int32).toNatClampNeg x1) fun M2 => k5 M2 (x0) (x1) ((x2 + 1)) (x3)
def f_X21_fillI_5  : Nat → Mem → Nat → Int32 → Int32 → Int32 → Option (Mem)
  | 0 => fun _ _ _ _ _ => none
  | n + 1 => fun y0 y1 y2 y3 y4 => s_X21_fillI_5  (f_X21_fillI_5  n) y0 y1 y2 y3 y4
def f_X21_fillI (M : Mem) (a0 : Nat) (a1 : Int32) : Option (Mem) :=
  gd (oB shC a0 100) <| f_X21_fillI_5 FU M (a0) (a1) (0) ((Int32.ofNat (shC a0).2))
theorem t_s_X21_fillI_5 {X : Cx} {res : Mem} {k5 : Mem → Nat → Int32 → Int32 → Int32 → Option (Mem)} (hX : OkX X cX21_fillI RX21 0 0) (hn : Fit X shC nC) (hR : RetV X shC nC res) (hk5 : ∀ M x0 x1 x2 x3, k5 M x0 x1 x2 x3 = some res → GoN X shC nC 0 0 M 5 [some (.ref (X.B + x0)), some (.int (x1)), some (.int (x2)), some (.int (x3))] []) (M : Mem) (x0 : Nat) (x1 : Int32) (x2 : Int32) (x3 : Int32) (hf : s_X21_fillI_5 k5 M x0 x1 x2 x3 = some res) : GoN X shC nC 0 0 M 5 [some (.ref (X.B + x0)), some (.int (x1)), some (.int (x2)), some (.int (x3))] [] := by
  refine r_iload_n (i := 2) hX e_X21_fillI_5 rfl rfl ?_
  refine r_iload_n (i := 3) hX e_X21_fillI_6 rfl rfl ?_
  refine r_icmp_ge hX e_X21_fillI_7 (fun hc => ?_) (fun hc => ?_)
  · have hf := ite_t hf hc
    exact r_ret hX hR e_X21_fillI_20 hf
  · have hf := ite_f hf hc
    refine r_aload_n (i := 0) hX e_X21_fillI_10 rfl rfl ?_
    refine r_iload_n (i := 2) hX e_X21_fillI_11 rfl rfl ?_
    refine r_iload_n (i := 1) hX e_X21_fillI_12 rfl rfl ?_
    obtain ⟨g1, hf⟩ := gd_s hf
    obtain ⟨M2, hM2, hf⟩ := nx_s hf
    refine r_iast hX hn hM2 e_X21_fillI_13 g1 ?_
    refine r_iinc (v := x2 + 1) hX e_X21_fillI_14 rfl (ii_s ic_1) (Nat.le_of_ble_eq_true rfl) rfl ?_
    refine r_goto hX e_X21_fillI_17 ?_
    exact GoN.weak (hk5 M2 (x0) (x1) ((x2 + 1)) (x3) hf) rfl (sb_s (sb_s (sb_s (sb_s (sb_z _)))))
theorem t_X21_fillI_5 {X : Cx} {res : Mem}  (hX : OkX X cX21_fillI RX21 0 0) (hn : Fit X shC nC) (hR : RetV X shC nC res)  : ∀ (n : Nat) (M : Mem) (x0 : Nat) (x1 : Int32) (x2 : Int32) (x3 : Int32),  f_X21_fillI_5  n M x0 x1 x2 x3 = some res → GoN X shC nC 0 0 M 5 [some (.ref (X.B + x0)), some (.int (x1)), some (.int (x2)), some (.int (x3))] [] := by
  intro n
  induction n with
  | zero => intro M x0 x1 x2 x3 hf; cases hf
  | succ n ih => intro M x0 x1 x2 x3 hf; exact t_s_X21_fillI_5 hX hn hR  ih M x0 x1 x2 x3 hf
theorem t_X21_fillI {l : Launch} {M : Mem} {a0 : Nat} {a1 : Int32} {res : Mem} (hf : f_X21_fillI M a0 a1 = some res) : Cv l yX21_fillI cX21_fillI 4 none 0 0 shC nC (fun K B => [.ref (B + a0), .int a1]) M res := by
  refine met_v (own := RX21) (lo := fun K B => [some (.ref (B + a0)), some (.int a1), none, none]) (by decide +kernel) rfl shC_ok (fun _ _ => rfl) (fun _ _ => rfl) (fun _ _ => Nat.le_of_ble_eq_true rfl) (fun X hX hn hlx hR => ?_)
  refine r_iconst hX e_X21_fillI_0 ic_0 ?_
  refine r_istore_n (i := 2) hX e_X21_fillI_1 rfl (Nat.le_of_ble_eq_true rfl) rfl ?_
  refine r_aload_n (i := 0) hX e_X21_fillI_2 rfl rfl ?_
  obtain ⟨g1, hf⟩ := gd_s hf
  refine r_alen (t := 0) hX hn e_X21_fillI_3 g1 (Nat.le_of_ble_eq_true rfl) rfl ?_
  refine r_istore_n (i := 3) hX e_X21_fillI_4 rfl (Nat.le_of_ble_eq_true rfl) rfl ?_
  exact GoN.weak (t_X21_fillI_5 hX hn hR FU M (a0) (a1) (0) ((Int32.ofNat (shC a0).2)) hf) rfl (sb_s (sb_s (sb_s (sb_s (sb_z _)))))
def s_X21_fillJ_6 (k6 : Mem → Nat → Int64 → Int32 → Int32 → Option (Mem)) (M : Mem) (x0 : Nat) (x1 : Int64) (x3 : Int32) (x4 : Int32) : Option (Mem) :=
  if x4 ≤ x3 then some M else gd (aB shC x0 1 x3) <| nx (sL M x0 (x3 : Int32).toNatClampNeg x1) fun M2 => k6 M2 (x0) (x1) ((x3 + 1)) (x4)
def f_X21_fillJ_6  : Nat → Mem → Nat → Int64 → Int32 → Int32 → Option (Mem)
  | 0 => fun _ _ _ _ _ => none
  | n + 1 => fun y0 y1 y2 y3 y4 => s_X21_fillJ_6  (f_X21_fillJ_6  n) y0 y1 y2 y3 y4
def f_X21_fillJ (M : Mem) (a0 : Nat) (a1 : Int64) : Option (Mem) :=
  gd (oB shC a0 101) <| f_X21_fillJ_6 FU M (a0) (a1) (0) ((Int32.ofNat (shC a0).2))
theorem t_s_X21_fillJ_6 {X : Cx} {res : Mem} {k6 : Mem → Nat → Int64 → Int32 → Int32 → Option (Mem)} (hX : OkX X cX21_fillJ RX21 0 0) (hn : Fit X shC nC) (hR : RetV X shC nC res) (hk6 : ∀ M x0 x1 x3 x4, k6 M x0 x1 x3 x4 = some res → GoN X shC nC 0 0 M 6 [some (.ref (X.B + x0)), some (.long (x1)), none, some (.int (x3)), some (.int (x4))] []) (M : Mem) (x0 : Nat) (x1 : Int64) (x3 : Int32) (x4 : Int32) (hf : s_X21_fillJ_6 k6 M x0 x1 x3 x4 = some res) : GoN X shC nC 0 0 M 6 [some (.ref (X.B + x0)), some (.long (x1)), none, some (.int (x3)), some (.int (x4))] [] := by
  refine r_iload_n (i := 3) hX e_X21_fillJ_6 rfl rfl ?_
  refine r_iload hX e_X21_fillJ_7 rfl ?_
  refine r_icmp_ge hX e_X21_fillJ_9 (fun hc => ?_) (fun hc => ?_)
  · have hf := ite_t hf hc
    exact r_ret hX hR e_X21_fillJ_22 hf
  · have hf := ite_f hf hc
    refine r_aload_n (i := 0) hX e_X21_fillJ_12 rfl rfl ?_
    refine r_iload_n (i := 3) hX e_X21_fillJ_13 rfl rfl ?_
    refine r_lload_n (i := 1) hX e_X21_fillJ_14 rfl rfl ?_
    obtain ⟨g1, hf⟩ := gd_s hf
    obtain ⟨M2, hM2, hf⟩ := nx_s hf
    refine r_last hX hn hM2 e_X21_fillJ_15 g1 ?_
    refine r_iinc (v := x3 + 1) hX e_X21_fillJ_16 rfl (ii_s ic_1) (Nat.le_of_ble_eq_true rfl) rfl ?_
    refine r_goto hX e_X21_fillJ_19 ?_
    exact GoN.weak (hk6 M2 (x0) (x1) ((x3 + 1)) (x4) hf) rfl (sb_s (sb_s (sb_n (sb_s (sb_s (sb_z _))))))
theorem t_X21_fillJ_6 {X : Cx} {res : Mem}  (hX : OkX X cX21_fillJ RX21 0 0) (hn : Fit X shC nC) (hR : RetV X shC nC res)  : ∀ (n : Nat) (M : Mem) (x0 : Nat) (x1 : Int64) (x3 : Int32) (x4 : Int32),  f_X21_fillJ_6  n M x0 x1 x3 x4 = some res → GoN X shC nC 0 0 M 6 [some (.ref (X.B + x0)), some (.long (x1)), none, some (.int (x3)), some (.int (x4))] [] := by
  intro n
  induction n with
  | zero => intro M x0 x1 x3 x4 hf; cases hf
  | succ n ih => intro M x0 x1 x3 x4 hf; exact t_s_X21_fillJ_6 hX hn hR  ih M x0 x1 x3 x4 hf
theorem t_X21_fillJ {l : Launch} {M : Mem} {a0 : Nat} {a1 : Int64} {res : Mem} (hf : f_X21_fillJ M a0 a1 = some res) : Cv l yX21_fillJ cX21_fillJ 5 none 0 0 shC nC (fun K B => [.ref (B + a0), .long a1]) M res := by
  refine met_v (own := RX21) (lo := fun K B => [some (.ref (B + a0)), some (.long a1), none, none, none]) (by decide +kernel) rfl shC_ok (fun _ _ => rfl) (fun _ _ => rfl) (fun _ _ => Nat.le_of_ble_eq_true rfl) (fun X hX hn hlx hR => ?_)
  refine r_iconst hX e_X21_fillJ_0 ic_0 ?_
  refine r_istore_n (i := 3) hX e_X21_fillJ_1 rfl (Nat.le_of_ble_eq_true rfl) rfl ?_
  refine r_aload_n (i := 0) hX e_X21_fillJ_2 rfl rfl ?_
  obtain ⟨g1, hf⟩ := gd_s hf
  refine r_alen (t := 1) hX hn e_X21_fillJ_3 g1 (Nat.le_of_ble_eq_true rfl) rfl ?_
  refine r_istore hX e_X21_fillJ_4 (Nat.le_of_ble_eq_true rfl) rfl ?_
  exact GoN.weak (t_X21_fillJ_6 hX hn hR FU M (a0) (a1) (0) ((Int32.ofNat (shC a0).2)) hf) rfl (sb_s (sb_s (sb_n (sb_s (sb_s (sb_z _))))))
def s_X1_wanted_4 (M : Mem) (k4 : Nat → Int32 → Int32 → Option (Int32)) (x0 : Nat) (x1 : Int32) (x2 : Int32) : Option (Int32) :=
  gd (oB shC x0 1) <| if (gI M x0 3) ≤ x2 then some x1 else bd (gR M x0 5) fun r2 => gd (aB shC r2 0 x2) <| k4 (x0) ((x1 + (gI M r2 (x2 : Int32).toNatClampNeg))) ((x2 + 1))
def f_X1_wanted_4 (M : Mem)  : Nat → Nat → Int32 → Int32 → Option (Int32)
  | 0 => fun _ _ _ => none
  | n + 1 => fun y0 y1 y2 => s_X1_wanted_4 M  (f_X1_wanted_4 M  n) y0 y1 y2
def f_X1_wanted (M : Mem) (a0 : Nat) : Option (Int32) :=
  f_X1_wanted_4 M FU (a0) (0) (0)
theorem t_s_X1_wanted_4 {X : Cx} {M : Mem} {res : Int32} {k4 : Nat → Int32 → Int32 → Option (Int32)} (hX : OkX X cX1_wanted RX1 0 0) (hn : Fit X shC nC) (hR : RetI X shC nC .int (M, res)) (hk4 : ∀ x0 x1 x2, k4 x0 x1 x2 = some res → GoN X shC nC 0 0 M 4 [some (.ref (X.B + x0)), some (.int (x1)), some (.int (x2))] []) (x0 : Nat) (x1 : Int32) (x2 : Int32) (hf : s_X1_wanted_4 M k4 x0 x1 x2 = some res) : GoN X shC nC 0 0 M 4 [some (.ref (X.B + x0)), some (.int (x1)), some (.int (x2))] [] := by
  refine r_iload_n (i := 2) hX e_X1_wanted_4 rfl rfl ?_
  refine r_aload_n (i := 0) hX e_X1_wanted_5 rfl rfl ?_
  obtain ⟨g1, hf⟩ := gd_s hf
  refine r_getI hX hn e_X1_wanted_6 fl_1_31 rfl g1 ?_
  refine r_icmp_ge hX e_X1_wanted_9 (fun hc => ?_) (fun hc => ?_)
  · have hf := ite_t hf hc
    refine r_iload_n (i := 1) hX e_X1_wanted_27 rfl rfl ?_
    exact r_iret hX hR e_X1_wanted_28 (ro_s hf)
  · have hf := ite_f hf hc
    refine r_iload_n (i := 1) hX e_X1_wanted_12 rfl rfl ?_
    refine r_aload_n (i := 0) hX e_X1_wanted_13 rfl rfl ?_
    obtain ⟨r2, hr2, hf⟩ := bd_s hf
    refine r_getR hX hn e_X1_wanted_14 fl_1_15 rfl g1 hr2 ?_
    refine r_iload_n (i := 2) hX e_X1_wanted_17 rfl rfl ?_
    obtain ⟨g3, hf⟩ := gd_s hf
    refine r_iald hX hn e_X1_wanted_18 g3 ?_
    refine r_iadd hX e_X1_wanted_19 ?_
    refine r_istore_n (i := 1) hX e_X1_wanted_20 rfl (Nat.le_of_ble_eq_true rfl) rfl ?_
    refine r_iinc (v := x2 + 1) hX e_X1_wanted_21 rfl (ii_s ic_1) (Nat.le_of_ble_eq_true rfl) rfl ?_
    refine r_goto hX e_X1_wanted_24 ?_
    exact GoN.weak (hk4 (x0) ((x1 + (gI M r2 (x2 : Int32).toNatClampNeg))) ((x2 + 1)) hf) rfl (sb_s (sb_s (sb_s (sb_z _))))
theorem t_X1_wanted_4 {X : Cx} {M : Mem} {res : Int32}  (hX : OkX X cX1_wanted RX1 0 0) (hn : Fit X shC nC) (hR : RetI X shC nC .int (M, res))  : ∀ (n : Nat) (x0 : Nat) (x1 : Int32) (x2 : Int32),  f_X1_wanted_4 M  n x0 x1 x2 = some res → GoN X shC nC 0 0 M 4 [some (.ref (X.B + x0)), some (.int (x1)), some (.int (x2))] [] := by
  intro n
  induction n with
  | zero => intro x0 x1 x2 hf; cases hf
  | succ n ih => intro x0 x1 x2 hf; exact t_s_X1_wanted_4 hX hn hR  ih x0 x1 x2 hf
theorem t_X1_wanted {l : Launch} {M : Mem} {a0 : Nat} {res : Int32} (hf : f_X1_wanted M a0 = some res) : Ci l yX1_wanted cX1_wanted 3 (some .int) 0 0 shC nC (fun K B => [.ref (B + a0)]) M (M, res) := by
  refine met_i (own := RX1) (lo := fun K B => [some (.ref (B + a0)), none, none]) (by decide +kernel) rfl shC_ok (fun _ _ => rfl) (fun _ _ => rfl) (fun _ _ => Nat.le_of_ble_eq_true rfl) (fun X hX hn hlx hR => ?_)
  refine r_iconst hX e_X1_wanted_0 ic_0 ?_
  refine r_istore_n (i := 1) hX e_X1_wanted_1 rfl (Nat.le_of_ble_eq_true rfl) rfl ?_
  refine r_iconst hX e_X1_wanted_2 ic_0 ?_
  refine r_istore_n (i := 2) hX e_X1_wanted_3 rfl (Nat.le_of_ble_eq_true rfl) rfl ?_
  exact GoN.weak (t_X1_wanted_4 hX hn hR FU (a0) (0) (0) hf) rfl (sb_s (sb_s (sb_s (sb_z _))))
def s_X1_wantOf_2 (M : Mem) (k2 : Nat → Int32 → Int32 → Option (Int32)) (x0 : Nat) (x1 : Int32) (x2 : Int32) : Option (Int32) :=
  gd (oB shC x0 1) <| if (gI M x0 3) ≤ x2 then some (-1) else bd (gR M x0 4) fun r2 => gd (aB shC r2 0 x2) <| if (gI M r2 (x2 : Int32).toNatClampNeg) = x1 then some x2 else k2 (x0) (x1) ((x2 + 1))
def f_X1_wantOf_2 (M : Mem)  : Nat → Nat → Int32 → Int32 → Option (Int32)
  | 0 => fun _ _ _ => none
  | n + 1 => fun y0 y1 y2 => s_X1_wantOf_2 M  (f_X1_wantOf_2 M  n) y0 y1 y2
def f_X1_wantOf (M : Mem) (a0 : Nat) (a1 : Int32) : Option (Int32) :=
  f_X1_wantOf_2 M FU (a0) (a1) (0)
theorem t_s_X1_wantOf_2 {X : Cx} {M : Mem} {res : Int32} {k2 : Nat → Int32 → Int32 → Option (Int32)} (hX : OkX X cX1_wantOf RX1 0 0) (hn : Fit X shC nC) (hR : RetI X shC nC .int (M, res)) (hk2 : ∀ x0 x1 x2, k2 x0 x1 x2 = some res → GoN X shC nC 0 0 M 2 [some (.ref (X.B + x0)), some (.int (x1)), some (.int (x2))] []) (x0 : Nat) (x1 : Int32) (x2 : Int32) (hf : s_X1_wantOf_2 M k2 x0 x1 x2 = some res) : GoN X shC nC 0 0 M 2 [some (.ref (X.B + x0)), some (.int (x1)), some (.int (x2))] [] := by
  refine r_iload_n (i := 2) hX e_X1_wantOf_2 rfl rfl ?_
  refine r_aload_n (i := 0) hX e_X1_wantOf_3 rfl rfl ?_
  obtain ⟨g1, hf⟩ := gd_s hf
  refine r_getI hX hn e_X1_wantOf_4 fl_1_31 rfl g1 ?_
  refine r_icmp_ge hX e_X1_wantOf_7 (fun hc => ?_) (fun hc => ?_)
  · have hf := ite_t hf hc
    refine r_iconst hX e_X1_wantOf_28 ic_m1 ?_
    exact r_iret hX hR e_X1_wantOf_29 (ro_s hf)
  · have hf := ite_f hf hc
    refine r_aload_n (i := 0) hX e_X1_wantOf_10 rfl rfl ?_
    obtain ⟨r2, hr2, hf⟩ := bd_s hf
    refine r_getR hX hn e_X1_wantOf_11 fl_1_9 rfl g1 hr2 ?_
    refine r_iload_n (i := 2) hX e_X1_wantOf_14 rfl rfl ?_
    obtain ⟨g3, hf⟩ := gd_s hf
    refine r_iald hX hn e_X1_wantOf_15 g3 ?_
    refine r_iload_n (i := 1) hX e_X1_wantOf_16 rfl rfl ?_
    refine r_icmp_ne hX e_X1_wantOf_17 (fun hc => ?_) (fun hc => ?_)
    · have hf := ite_f hf hc
      refine r_iinc (v := x2 + 1) hX e_X1_wantOf_22 rfl (ii_s ic_1) (Nat.le_of_ble_eq_true rfl) rfl ?_
      refine r_goto hX e_X1_wantOf_25 ?_
      exact GoN.weak (hk2 (x0) (x1) ((x2 + 1)) hf) rfl (sb_s (sb_s (sb_s (sb_z _))))
    · have hf := ite_t hf hc
      refine r_iload_n (i := 2) hX e_X1_wantOf_20 rfl rfl ?_
      exact r_iret hX hR e_X1_wantOf_21 (ro_s hf)
theorem t_X1_wantOf_2 {X : Cx} {M : Mem} {res : Int32}  (hX : OkX X cX1_wantOf RX1 0 0) (hn : Fit X shC nC) (hR : RetI X shC nC .int (M, res))  : ∀ (n : Nat) (x0 : Nat) (x1 : Int32) (x2 : Int32),  f_X1_wantOf_2 M  n x0 x1 x2 = some res → GoN X shC nC 0 0 M 2 [some (.ref (X.B + x0)), some (.int (x1)), some (.int (x2))] [] := by
  intro n
  induction n with
  | zero => intro x0 x1 x2 hf; cases hf
  | succ n ih => intro x0 x1 x2 hf; exact t_s_X1_wantOf_2 hX hn hR  ih x0 x1 x2 hf
theorem t_X1_wantOf {l : Launch} {M : Mem} {a0 : Nat} {a1 : Int32} {res : Int32} (hf : f_X1_wantOf M a0 a1 = some res) : Ci l yX1_wantOf cX1_wantOf 3 (some .int) 0 0 shC nC (fun K B => [.ref (B + a0), .int a1]) M (M, res) := by
  refine met_i (own := RX1) (lo := fun K B => [some (.ref (B + a0)), some (.int a1), none]) (by decide +kernel) rfl shC_ok (fun _ _ => rfl) (fun _ _ => rfl) (fun _ _ => Nat.le_of_ble_eq_true rfl) (fun X hX hn hlx hR => ?_)
  refine r_iconst hX e_X1_wantOf_0 ic_0 ?_
  refine r_istore_n (i := 2) hX e_X1_wantOf_1 rfl (Nat.le_of_ble_eq_true rfl) rfl ?_
  exact GoN.weak (t_X1_wantOf_2 hX hn hR FU (a0) (a1) (0) hf) rfl (sb_s (sb_s (sb_s (sb_z _))))
def f_X22_bitCount (M : Mem) (a0 : Int64) : Option (Int32) :=
  nx ((((a0 : Int64).toUInt64 >>> ((1 : Int32).toInt64.toUInt64 &&& Int64.toUInt64 63)).toInt64)) fun v1 => nx (((a0 - (v1 &&& 6148914691236517205)) &&& 3689348814741910323)) fun v2 => nx (((((a0 - (v1 &&& 6148914691236517205)) : Int64).toUInt64 >>> ((2 : Int32).toInt64.toUInt64 &&& Int64.toUInt64 63)).toInt64)) fun v3 => nx (((((v2 + (v3 &&& 3689348814741910323)) : Int64).toUInt64 >>> ((4 : Int32).toInt64.toUInt64 &&& Int64.toUInt64 63)).toInt64)) fun v4 => nx ((((v2 + (v3 &&& 3689348814741910323)) + v4) &&& 1085102592571150095)) fun v5 => nx ((((v5 : Int64).toUInt64 >>> ((8 : Int32).toInt64.toUInt64 &&& Int64.toUInt64 63)).toInt64)) fun v6 => nx (((((v5 + v6) : Int64).toUInt64 >>> ((16 : Int32).toInt64.toUInt64 &&& Int64.toUInt64 63)).toInt64)) fun v7 => nx ((((((v5 + v6) + v7) : Int64).toUInt64 >>> ((32 : Int32).toInt64.toUInt64 &&& Int64.toUInt64 63)).toInt64)) fun v8 => nx ((((((v5 + v6) + v7) + v8) : Int64).toInt32 &&& 127)) fun v9 => some v9
theorem t_X22_bitCount {l : Launch} {M : Mem} {a0 : Int64} {res : Int32} (hf : f_X22_bitCount M a0 = some res) : Ci l yX22_bitCount cX22_bitCount 2 (some .int) 0 0 shC nC (fun K B => [.long a0]) M (M, res) := by
  refine met_i (own := RX22) (lo := fun K B => [some (.long a0), none]) (by decide +kernel) rfl shC_ok (fun _ _ => rfl) (fun _ _ => rfl) (fun _ _ => Nat.le_of_ble_eq_true rfl) (fun X hX hn hlx hR => ?_)
  refine r_lload_n (i := 0) hX e_X22_bitCount_0 rfl rfl ?_
  refine r_lload_n (i := 0) hX e_X22_bitCount_1 rfl rfl ?_
  refine r_iconst hX e_X22_bitCount_2 ic_1 ?_
  refine r_lushr hX e_X22_bitCount_3 ?_
  obtain ⟨v1, hv1, hf⟩ := nx_s hf
  refine top_l hv1 ?_
  refine r_ldc2 hX e_X22_bitCount_4 wk_907 ?_
  refine r_land hX e_X22_bitCount_7 ?_
  refine r_lsub hX e_X22_bitCount_8 ?_
  refine r_lstore_n (i := 0) hX e_X22_bitCount_9 rfl (Nat.le_of_ble_eq_true rfl) rfl ?_
  refine r_lload_n (i := 0) hX e_X22_bitCount_10 rfl rfl ?_
  refine r_ldc2 hX e_X22_bitCount_11 wk_908 ?_
  refine r_land hX e_X22_bitCount_14 ?_
  obtain ⟨v2, hv2, hf⟩ := nx_s hf
  refine top_l hv2 ?_
  refine r_lload_n (i := 0) hX e_X22_bitCount_15 rfl rfl ?_
  refine r_iconst hX e_X22_bitCount_16 ic_2 ?_
  refine r_lushr hX e_X22_bitCount_17 ?_
  obtain ⟨v3, hv3, hf⟩ := nx_s hf
  refine top_l hv3 ?_
  refine r_ldc2 hX e_X22_bitCount_18 wk_908 ?_
  refine r_land hX e_X22_bitCount_21 ?_
  refine r_ladd hX e_X22_bitCount_22 ?_
  refine r_lstore_n (i := 0) hX e_X22_bitCount_23 rfl (Nat.le_of_ble_eq_true rfl) rfl ?_
  refine r_lload_n (i := 0) hX e_X22_bitCount_24 rfl rfl ?_
  refine r_lload_n (i := 0) hX e_X22_bitCount_25 rfl rfl ?_
  refine r_iconst hX e_X22_bitCount_26 ic_4 ?_
  refine r_lushr hX e_X22_bitCount_27 ?_
  obtain ⟨v4, hv4, hf⟩ := nx_s hf
  refine top_l hv4 ?_
  refine r_ladd hX e_X22_bitCount_28 ?_
  refine r_ldc2 hX e_X22_bitCount_29 wk_909 ?_
  refine r_land hX e_X22_bitCount_32 ?_
  obtain ⟨v5, hv5, hf⟩ := nx_s hf
  refine top_l hv5 ?_
  refine r_lstore_n (i := 0) hX e_X22_bitCount_33 rfl (Nat.le_of_ble_eq_true rfl) rfl ?_
  refine r_lload_n (i := 0) hX e_X22_bitCount_34 rfl rfl ?_
  refine r_lload_n (i := 0) hX e_X22_bitCount_35 rfl rfl ?_
  refine r_bipush hX e_X22_bitCount_36 bc_8 ?_
  refine r_lushr hX e_X22_bitCount_38 ?_
  obtain ⟨v6, hv6, hf⟩ := nx_s hf
  refine top_l hv6 ?_
  refine r_ladd hX e_X22_bitCount_39 ?_
  refine r_lstore_n (i := 0) hX e_X22_bitCount_40 rfl (Nat.le_of_ble_eq_true rfl) rfl ?_
  refine r_lload_n (i := 0) hX e_X22_bitCount_41 rfl rfl ?_
  refine r_lload_n (i := 0) hX e_X22_bitCount_42 rfl rfl ?_
  refine r_bipush hX e_X22_bitCount_43 bc_16 ?_
  refine r_lushr hX e_X22_bitCount_45 ?_
  obtain ⟨v7, hv7, hf⟩ := nx_s hf
  refine top_l hv7 ?_
  refine r_ladd hX e_X22_bitCount_46 ?_
  refine r_lstore_n (i := 0) hX e_X22_bitCount_47 rfl (Nat.le_of_ble_eq_true rfl) rfl ?_
  refine r_lload_n (i := 0) hX e_X22_bitCount_48 rfl rfl ?_
  refine r_lload_n (i := 0) hX e_X22_bitCount_49 rfl rfl ?_
  refine r_bipush hX e_X22_bitCount_50 bc_32 ?_
  refine r_lushr hX e_X22_bitCount_52 ?_
  obtain ⟨v8, hv8, hf⟩ := nx_s hf
  refine top_l hv8 ?_
  refine r_ladd hX e_X22_bitCount_53 ?_
  refine r_lstore_n (i := 0) hX e_X22_bitCount_54 rfl (Nat.le_of_ble_eq_true rfl) rfl ?_
  refine r_lload_n (i := 0) hX e_X22_bitCount_55 rfl rfl ?_
  refine r_l2i hX e_X22_bitCount_56 ?_
  refine r_bipush hX e_X22_bitCount_57 bc_127 ?_
  refine r_iand hX e_X22_bitCount_59 ?_
  obtain ⟨v9, hv9, hf⟩ := nx_s hf
  refine top_i hv9 ?_
  exact r_iret hX hR e_X22_bitCount_60 (ro_s hf)
def f_X20_max (M : Mem) (a0 : Int32) (a1 : Int32) : Option (Int32) :=
  if a0 < a1 then some a1 else some a0
theorem t_X20_max {l : Launch} {M : Mem} {a0 a1 : Int32} {res : Int32} (hf : f_X20_max M a0 a1 = some res) : Ci l yX20_max cX20_max 2 (some .int) 0 0 shC nC (fun K B => [.int a0, .int a1]) M (M, res) := by
  refine met_i (own := RX20) (lo := fun K B => [some (.int a0), some (.int a1)]) (by decide +kernel) rfl shC_ok (fun _ _ => rfl) (fun _ _ => rfl) (fun _ _ => Nat.le_of_ble_eq_true rfl) (fun X hX hn hlx hR => ?_)
  refine r_iload_n (i := 0) hX e_X20_max_0 rfl rfl ?_
  refine r_iload_n (i := 1) hX e_X20_max_1 rfl rfl ?_
  refine r_icmp_lt hX e_X20_max_2 (fun hc => ?_) (fun hc => ?_)
  · have hf := ite_t hf hc
    refine r_iload_n (i := 1) hX e_X20_max_9 rfl rfl ?_
    exact r_iret hX hR e_X20_max_10 (ro_s hf)
  · have hf := ite_f hf hc
    refine r_iload_n (i := 0) hX e_X20_max_5 rfl rfl ?_
    refine r_goto hX e_X20_max_6 ?_
    exact r_iret hX hR e_X20_max_10 (ro_s hf)
def f_X2_quietPrice (M : Mem) (a0 : Nat) (a1 : Nat) (a2 : Int32) : Option (Int32) :=
  gd (oB shC a1 9) <| if (gI M a1 5) = 1 then gd (oB shC a0 2) <| bd (gR M a0 0) fun r3 => gd (aB shC r3 9 (gI M a1 0)) <| bd (gR M r3 ((gI M a1 0) : Int32).toNatClampNeg) fun r5 => gd (aB shC r5 0 a2) <| nx (((gI M a1 6) * (gI M r5 (a2 : Int32).toNatClampNeg))) fun v7 => bd (f_X20_max M 0 ((gI M a1 4) - v7)) fun v8 => some v8 else some (gI M a1 4)
theorem t_X2_quietPrice {l : Launch} {M : Mem} {a0 a1 : Nat} {a2 : Int32} {res : Int32} (hf : f_X2_quietPrice M a0 a1 a2 = some res) : Ci l yX2_quietPrice cX2_quietPrice 3 (some .int) 1 21 shC nC (fun K B => [.ref (B + a0), .ref (B + a1), .int a2]) M (M, res) := by
  refine met_i (own := RX2) (lo := fun K B => [some (.ref (B + a0)), some (.ref (B + a1)), some (.int a2)]) (by decide +kernel) rfl shC_ok (fun _ _ => rfl) (fun _ _ => rfl) (fun _ _ => Nat.le_of_ble_eq_true rfl) (fun X hX hn hlx hR => ?_)
  refine r_aload_n (i := 1) hX e_X2_quietPrice_0 rfl rfl ?_
  obtain ⟨g1, hf⟩ := gd_s hf
  refine r_getI hX hn e_X2_quietPrice_1 fl_2_77 rfl g1 ?_
  refine r_iconst hX e_X2_quietPrice_4 ic_1 ?_
  refine r_icmp_eq hX e_X2_quietPrice_5 (fun hc => ?_) (fun hc => ?_)
  · have hf := ite_t hf hc
    refine r_iconst hX e_X2_quietPrice_13 ic_0 ?_
    refine r_aload_n (i := 1) hX e_X2_quietPrice_14 rfl rfl ?_
    refine r_getI hX hn e_X2_quietPrice_15 fl_2_80 rfl g1 ?_
    refine r_aload_n (i := 1) hX e_X2_quietPrice_18 rfl rfl ?_
    refine r_getI hX hn e_X2_quietPrice_19 fl_2_83 rfl g1 ?_
    refine r_aload_n (i := 0) hX e_X2_quietPrice_22 rfl rfl ?_
    obtain ⟨g2, hf⟩ := gd_s hf
    obtain ⟨r3, hr3, hf⟩ := bd_s hf
    refine r_getR hX hn e_X2_quietPrice_23 fl_2_11 rfl g2 hr3 ?_
    refine r_aload_n (i := 1) hX e_X2_quietPrice_26 rfl rfl ?_
    refine r_getI hX hn e_X2_quietPrice_27 fl_2_56 rfl g1 ?_
    obtain ⟨g4, hf⟩ := gd_s hf
    obtain ⟨r5, hr5, hf⟩ := bd_s hf
    refine r_aald hX hn e_X2_quietPrice_30 g4 (Nat.le_of_ble_eq_true rfl) rfl rfl rfl hr5 ?_
    refine r_iload_n (i := 2) hX e_X2_quietPrice_31 rfl rfl ?_
    obtain ⟨g6, hf⟩ := gd_s hf
    refine r_iald hX hn e_X2_quietPrice_32 g6 ?_
    refine r_imul hX e_X2_quietPrice_33 ?_
    obtain ⟨v7, hv7, hf⟩ := nx_s hf
    refine top_i hv7 ?_
    refine r_isub hX e_X2_quietPrice_34 ?_
    obtain ⟨v8, hv8, hf⟩ := bd_s hf
    refine r_csi (As := fun K B => [.int (0), .int (((gI M a1 4) - v7))]) hX hn (t_X20_max hv8) e_X2_quietPrice_35 cw_X20_max cv_X20_max lk_2_86 ⟨Nat.le_of_ble_eq_true rfl, Nat.le_of_ble_eq_true rfl⟩ rfl rfl (Nat.le_of_ble_eq_true rfl) ⟨Nat.zero_le _, Nat.zero_le _⟩ ?_
    exact r_iret hX hR e_X2_quietPrice_38 (ro_s hf)
  · have hf := ite_f hf hc
    refine r_aload_n (i := 1) hX e_X2_quietPrice_8 rfl rfl ?_
    refine r_getI hX hn e_X2_quietPrice_9 fl_2_80 rfl g1 ?_
    exact r_iret hX hR e_X2_quietPrice_12 (ro_s hf)
def f_X0_isToBeHad (M : Mem) (a0 : Nat) (a1 : Int32) (a2 : Int32) : Option (Int32) :=
  gd (oB shC a0 0) <| bd (gR M a0 3) fun r2 => gd (oB shC r2 4) <| bd (gR M r2 7) fun r4 => gd (aB shC r4 5 a1) <| bd (gR M r4 (a1 : Int32).toNatClampNeg) fun r6 => bd (gR M a0 4) fun r7 => gd (oB shC r7 2) <| bd (gR M r7 1) fun r9 => gd (aB shC r9 9 a1) <| bd (gR M r9 (a1 : Int32).toNatClampNeg) fun r11 => gd (aB shC r11 0 a2) <| bd (gR M a0 5) fun r13 => gd (oB shC r13 1) <| if (gI M r11 (a2 : Int32).toNatClampNeg) = (gI M r13 0) then bd (gR M a0 7) fun r15 => gd (aB shC r15 1 a1) <| nx (((gL M r15 (a1 : Int32).toNatClampNeg) >>> ((a2 : Int32).toInt64 &&& 63))) fun v17 => if (lg_cmp (v17 &&& 1) 1) = 0 then some 0 else gd (oB shC r6 9) <| bd (f_X1_wantOf M r13 (gI M r6 2)) fun v19 => if v19 = (-1) then some 0 else bd (gR M a0 6) fun r20 => gd (aB shC r20 0 v19) <| if (gI M r20 (v19 : Int32).toNatClampNeg) ≤ 0 then some 0 else bd (f_X22_bitCount M (gL M r15 (a1 : Int32).toNatClampNeg)) fun v22 => if (gI M r6 3) ≤ v22 then some 0 else bd (f_X2_quietPrice M r7 r6 a2) fun v23 => bd (gR M r13 6) fun r24 => gd (aB shC r24 0 v19) <| if (gI M r24 (v19 : Int32).toNatClampNeg) < v23 then some 0 else some 1 else some 0
theorem t_X0_isToBeHad {l : Launch} {M : Mem} {a0 : Nat} {a1 a2 : Int32} {res : Int32} (hf : f_X0_isToBeHad M a0 a1 a2 = some res) : Ci l yX0_isToBeHad cX0_isToBeHad 5 (some .boolean) 2 43 shC nC (fun K B => [.ref (B + a0), .int a1, .int a2]) M (M, res) := by
  refine met_i (own := RX0) (lo := fun K B => [some (.ref (B + a0)), some (.int a1), some (.int a2), none, none]) (by decide +kernel) rfl shC_ok (fun _ _ => rfl) (fun _ _ => rfl) (fun _ _ => Nat.le_of_ble_eq_true rfl) (fun X hX hn hlx hR => ?_)
  refine r_aload_n (i := 0) hX e_X0_isToBeHad_0 rfl rfl ?_
  obtain ⟨g1, hf⟩ := gd_s hf
  obtain ⟨r2, hr2, hf⟩ := bd_s hf
  refine r_getR hX hn e_X0_isToBeHad_1 fl_0_22 rfl g1 hr2 ?_
  obtain ⟨g3, hf⟩ := gd_s hf
  obtain ⟨r4, hr4, hf⟩ := bd_s hf
  refine r_getR hX hn e_X0_isToBeHad_4 fl_0_90 rfl g3 hr4 ?_
  refine r_iload_n (i := 1) hX e_X0_isToBeHad_7 rfl rfl ?_
  obtain ⟨g5, hf⟩ := gd_s hf
  obtain ⟨r6, hr6, hf⟩ := bd_s hf
  refine r_aald hX hn e_X0_isToBeHad_8 g5 (Nat.le_of_ble_eq_true rfl) rfl rfl rfl hr6 ?_
  refine r_astore_n (i := 3) hX e_X0_isToBeHad_9 rfl (Nat.le_of_ble_eq_true rfl) rfl ?_
  refine r_aload_n (i := 0) hX e_X0_isToBeHad_10 rfl rfl ?_
  obtain ⟨r7, hr7, hf⟩ := bd_s hf
  refine r_getR hX hn e_X0_isToBeHad_11 fl_0_26 rfl g1 hr7 ?_
  obtain ⟨g8, hf⟩ := gd_s hf
  obtain ⟨r9, hr9, hf⟩ := bd_s hf
  refine r_getR hX hn e_X0_isToBeHad_14 fl_0_106 rfl g8 hr9 ?_
  refine r_iload_n (i := 1) hX e_X0_isToBeHad_17 rfl rfl ?_
  obtain ⟨g10, hf⟩ := gd_s hf
  obtain ⟨r11, hr11, hf⟩ := bd_s hf
  refine r_aald hX hn e_X0_isToBeHad_18 g10 (Nat.le_of_ble_eq_true rfl) rfl rfl rfl hr11 ?_
  refine r_iload_n (i := 2) hX e_X0_isToBeHad_19 rfl rfl ?_
  obtain ⟨g12, hf⟩ := gd_s hf
  refine r_iald hX hn e_X0_isToBeHad_20 g12 ?_
  refine r_aload_n (i := 0) hX e_X0_isToBeHad_21 rfl rfl ?_
  obtain ⟨r13, hr13, hf⟩ := bd_s hf
  refine r_getR hX hn e_X0_isToBeHad_22 fl_0_36 rfl g1 hr13 ?_
  obtain ⟨g14, hf⟩ := gd_s hf
  refine r_getI hX hn e_X0_isToBeHad_25 fl_0_110 rfl g14 ?_
  refine r_icmp_ne hX e_X0_isToBeHad_28 (fun hc => ?_) (fun hc => ?_)
  · have hf := ite_f hf hc
    refine r_iconst hX e_X0_isToBeHad_46 ic_0 ?_
    exact r_zret hX hR rfl e_X0_isToBeHad_47 (ro_s hf)
  · have hf := ite_t hf hc
    refine r_aload_n (i := 0) hX e_X0_isToBeHad_31 rfl rfl ?_
    obtain ⟨r15, hr15, hf⟩ := bd_s hf
    refine r_getR hX hn e_X0_isToBeHad_32 fl_0_18 rfl g1 hr15 ?_
    refine r_iload_n (i := 1) hX e_X0_isToBeHad_35 rfl rfl ?_
    obtain ⟨g16, hf⟩ := gd_s hf
    refine r_lald hX hn e_X0_isToBeHad_36 g16 ?_
    refine r_iload_n (i := 2) hX e_X0_isToBeHad_37 rfl rfl ?_
    refine r_lshr hX e_X0_isToBeHad_38 ?_
    obtain ⟨v17, hv17, hf⟩ := nx_s hf
    refine top_l hv17 ?_
    refine r_lconst hX e_X0_isToBeHad_39 lc_1 ?_
    refine r_land hX e_X0_isToBeHad_40 ?_
    refine r_lconst hX e_X0_isToBeHad_41 lc_1 ?_
    refine r_lcmp hX e_X0_isToBeHad_42 ?_
    refine r_if_ne hX e_X0_isToBeHad_43 (fun hc => ?_) (fun hc => ?_)
    · have hf := ite_f hf hc
      refine r_aload_n (i := 0) hX e_X0_isToBeHad_48 rfl rfl ?_
      refine r_getR hX hn e_X0_isToBeHad_49 fl_0_36 rfl g1 hr13 ?_
      refine r_aload_n (i := 3) hX e_X0_isToBeHad_52 rfl rfl ?_
      obtain ⟨g18, hf⟩ := gd_s hf
      refine r_getI hX hn e_X0_isToBeHad_53 fl_0_112 rfl g18 ?_
      obtain ⟨v19, hv19, hf⟩ := bd_s hf
      refine r_cvi (As := fun K B => [.int ((gI M r6 2))]) hX hn (t_X1_wantOf hv19) e_X0_isToBeHad_56 cw_X1_wantOf cv_X1_wantOf lk_0_117 ⟨Nat.le_of_ble_eq_true rfl, Nat.le_of_ble_eq_true rfl⟩ (ci := 1) rfl rfl (Nat.le_of_ble_eq_true rfl) g14 rfl rfl (Nat.le_of_ble_eq_true rfl) ⟨Nat.zero_le _, Nat.zero_le _⟩ ?_
      refine r_istore hX e_X0_isToBeHad_59 (Nat.le_of_ble_eq_true rfl) rfl ?_
      refine r_iload hX e_X0_isToBeHad_61 rfl ?_
      refine r_iconst hX e_X0_isToBeHad_63 ic_m1 ?_
      refine r_icmp_eq hX e_X0_isToBeHad_64 (fun hc => ?_) (fun hc => ?_)
      · have hf := ite_t hf hc
        refine r_iconst hX e_X0_isToBeHad_119 ic_0 ?_
        exact r_zret hX hR rfl e_X0_isToBeHad_120 (ro_s hf)
      · have hf := ite_f hf hc
        refine r_aload_n (i := 0) hX e_X0_isToBeHad_67 rfl rfl ?_
        obtain ⟨r20, hr20, hf⟩ := bd_s hf
        refine r_getR hX hn e_X0_isToBeHad_68 fl_0_15 rfl g1 hr20 ?_
        refine r_iload hX e_X0_isToBeHad_71 rfl ?_
        obtain ⟨g21, hf⟩ := gd_s hf
        refine r_iald hX hn e_X0_isToBeHad_73 g21 ?_
        refine r_if_le hX e_X0_isToBeHad_74 (fun hc => ?_) (fun hc => ?_)
        · have hf := ite_t hf hc
          refine r_iconst hX e_X0_isToBeHad_119 ic_0 ?_
          exact r_zret hX hR rfl e_X0_isToBeHad_120 (ro_s hf)
        · have hf := ite_f hf hc
          refine r_aload_n (i := 0) hX e_X0_isToBeHad_77 rfl rfl ?_
          refine r_getR hX hn e_X0_isToBeHad_78 fl_0_18 rfl g1 hr15 ?_
          refine r_iload_n (i := 1) hX e_X0_isToBeHad_81 rfl rfl ?_
          refine r_lald hX hn e_X0_isToBeHad_82 g16 ?_
          obtain ⟨v22, hv22, hf⟩ := bd_s hf
          refine r_csi (As := fun K B => [.long ((gL M r15 (a1 : Int32).toNatClampNeg))]) hX hn (t_X22_bitCount hv22) e_X0_isToBeHad_83 cw_X22_bitCount cv_X22_bitCount lk_0_121 ⟨Nat.le_of_ble_eq_true rfl, Nat.le_of_ble_eq_true rfl⟩ rfl rfl (Nat.le_of_ble_eq_true rfl) ⟨Nat.zero_le _, Nat.zero_le _⟩ ?_
          refine r_aload_n (i := 3) hX e_X0_isToBeHad_86 rfl rfl ?_
          refine r_getI hX hn e_X0_isToBeHad_87 fl_0_127 rfl g18 ?_
          refine r_icmp_ge hX e_X0_isToBeHad_90 (fun hc => ?_) (fun hc => ?_)
          · have hf := ite_t hf hc
            refine r_iconst hX e_X0_isToBeHad_119 ic_0 ?_
            exact r_zret hX hR rfl e_X0_isToBeHad_120 (ro_s hf)
          · have hf := ite_f hf hc
            refine r_aload_n (i := 0) hX e_X0_isToBeHad_93 rfl rfl ?_
            refine r_getR hX hn e_X0_isToBeHad_94 fl_0_26 rfl g1 hr7 ?_
            refine r_aload_n (i := 3) hX e_X0_isToBeHad_97 rfl rfl ?_
            refine r_iload_n (i := 2) hX e_X0_isToBeHad_98 rfl rfl ?_
            obtain ⟨v23, hv23, hf⟩ := bd_s hf
            refine r_cvi (As := fun K B => [.ref (B + r6), .int (a2)]) hX hn (t_X2_quietPrice hv23) e_X0_isToBeHad_99 cw_X2_quietPrice cv_X2_quietPrice lk_0_94 ⟨Nat.le_of_ble_eq_true rfl, Nat.le_of_ble_eq_true rfl⟩ (ci := 2) rfl rfl (Nat.le_of_ble_eq_true rfl) g8 rfl rfl (Nat.le_of_ble_eq_true rfl) ⟨Nat.zero_le _, Nat.zero_le _⟩ ?_
            refine r_aload_n (i := 0) hX e_X0_isToBeHad_102 rfl rfl ?_
            refine r_getR hX hn e_X0_isToBeHad_103 fl_0_36 rfl g1 hr13 ?_
            obtain ⟨r24, hr24, hf⟩ := bd_s hf
            refine r_getR hX hn e_X0_isToBeHad_106 fl_0_128 rfl g14 hr24 ?_
            refine r_iload hX e_X0_isToBeHad_109 rfl ?_
            obtain ⟨g25, hf⟩ := gd_s hf
            refine r_iald hX hn e_X0_isToBeHad_111 g25 ?_
            refine r_icmp_gt hX e_X0_isToBeHad_112 (fun hc => ?_) (fun hc => ?_)
            · have hf := ite_t hf hc
              refine r_iconst hX e_X0_isToBeHad_119 ic_0 ?_
              exact r_zret hX hR rfl e_X0_isToBeHad_120 (ro_s hf)
            · have hf := ite_f hf hc
              refine r_iconst hX e_X0_isToBeHad_115 ic_1 ?_
              refine r_goto hX e_X0_isToBeHad_116 ?_
              exact r_zret hX hR rfl e_X0_isToBeHad_120 (ro_s hf)
    · have hf := ite_t hf hc
      refine r_iconst hX e_X0_isToBeHad_46 ic_0 ?_
      exact r_zret hX hR rfl e_X0_isToBeHad_47 (ro_s hf)
def s_X0_findNext_21 (k8 : Mem → Nat → Int32 → Option (Mem × Int32)) (k21 : Mem → Nat → Int32 → Int32 → Option (Mem × Int32)) (M : Mem) (x0 : Nat) (x1 : Int32) (x2 : Int32) : Option (Mem × Int32) :=
  gd (oB shC x0 0) <| bd (gR M x0 3) fun r2 => gd (oB shC r2 4) <| if (gI M r2 4) ≤ x2 then k8 M (x0) ((x1 + 1)) else bd (f_X0_isToBeHad M x0 x2 x1) fun v4 => if v4 = 0 then k21 M (x0) (x1) ((x2 + 1)) else bd (gR M x0 4) fun r5 => bd (gR M r2 7) fun r6 => gd (aB shC r6 5 x2) <| bd (gR M r6 (x2 : Int32).toNatClampNeg) fun r8 => gd (oB shC r5 2) <| bd (f_X2_quietPrice M r5 r8 x1) fun v10 => if (gI M x0 10) ≤ v10 then k21 M (x0) (x1) ((x2 + 1)) else nx (sI M x0 8 x2) fun M11 => nx (sI M11 x0 9 x1) fun M12 => nx (sI M12 x0 10 v10) fun M13 => k21 M13 (x0) (x1) ((x2 + 1))
def f_X0_findNext_21 (k8 : Mem → Nat → Int32 → Option (Mem × Int32)) : Nat → Mem → Nat → Int32 → Int32 → Option (Mem × Int32)
  | 0 => fun _ _ _ _ => none
  | n + 1 => fun y0 y1 y2 y3 => s_X0_findNext_21 k8 (f_X0_findNext_21 k8 n) y0 y1 y2 y3
def s_X0_findNext_8 (k8 : Mem → Nat → Int32 → Option (Mem × Int32)) (M : Mem) (x0 : Nat) (x1 : Int32) : Option (Mem × Int32) :=
  gd (oB shC x0 0) <| bd (gR M x0 3) fun r2 => gd (oB shC r2 4) <| if (gI M r2 1) ≤ x1 then if 99 < (gI M x0 10) then some (M, 0) else some (M, 1) else f_X0_findNext_21 k8 FU M (x0) (x1) (0)
def f_X0_findNext_8  : Nat → Mem → Nat → Int32 → Option (Mem × Int32)
  | 0 => fun _ _ _ => none
  | n + 1 => fun y0 y1 y2 => s_X0_findNext_8  (f_X0_findNext_8  n) y0 y1 y2
def f_X0_findNext (M : Mem) (a0 : Nat) : Option (Mem × Int32) :=
  gd (oB shC a0 0) <| nx (sI M a0 10 100) fun M2 => f_X0_findNext_8 FU M2 (a0) (0)
theorem t_s_X0_findNext_21 {X : Cx} {res : Mem × Int32} {k8 : Mem → Nat → Int32 → Option (Mem × Int32)} {k21 : Mem → Nat → Int32 → Int32 → Option (Mem × Int32)} (hX : OkX X cX0_findNext RX0 3 67) (hn : Fit X shC nC) (hR : RetI X shC nC .boolean res) (hk8 : ∀ M x0 x1, k8 M x0 x1 = some res → GoN X shC nC 0 0 M 8 [some (.ref (X.B + x0)), some (.int (x1)), none, none] []) (hk21 : ∀ M x0 x1 x2, k21 M x0 x1 x2 = some res → GoN X shC nC 0 0 M 21 [some (.ref (X.B + x0)), some (.int (x1)), some (.int (x2)), none] []) (M : Mem) (x0 : Nat) (x1 : Int32) (x2 : Int32) (hf : s_X0_findNext_21 k8 k21 M x0 x1 x2 = some res) : GoN X shC nC 0 0 M 21 [some (.ref (X.B + x0)), some (.int (x1)), some (.int (x2)), none] [] := by
  refine r_iload_n (i := 2) hX e_X0_findNext_21 rfl rfl ?_
  refine r_aload_n (i := 0) hX e_X0_findNext_22 rfl rfl ?_
  obtain ⟨g1, hf⟩ := gd_s hf
  obtain ⟨r2, hr2, hf⟩ := bd_s hf
  refine r_getR hX hn e_X0_findNext_23 fl_0_22 rfl g1 hr2 ?_
  obtain ⟨g3, hf⟩ := gd_s hf
  refine r_getI hX hn e_X0_findNext_26 fl_0_83 rfl g3 ?_
  refine r_icmp_ge hX e_X0_findNext_29 (fun hc => ?_) (fun hc => ?_)
  · have hf := ite_t hf hc
    refine r_iinc (v := x1 + 1) hX e_X0_findNext_91 rfl (ii_s ic_1) (Nat.le_of_ble_eq_true rfl) rfl ?_
    refine r_goto hX e_X0_findNext_94 ?_
    exact GoN.weak (hk8 M (x0) ((x1 + 1)) hf) rfl (sb_s (sb_s (sb_n (sb_n (sb_z _)))))
  · have hf := ite_f hf hc
    refine r_aload_n (i := 0) hX e_X0_findNext_32 rfl rfl ?_
    refine r_iload_n (i := 2) hX e_X0_findNext_33 rfl rfl ?_
    refine r_iload_n (i := 1) hX e_X0_findNext_34 rfl rfl ?_
    obtain ⟨v4, hv4, hf⟩ := bd_s hf
    refine r_cvi (As := fun K B => [.int (x2), .int (x1)]) hX hn (t_X0_isToBeHad hv4) e_X0_findNext_35 cw_X0_isToBeHad cv_X0_isToBeHad lk_0_86 ⟨Nat.le_of_ble_eq_true rfl, Nat.le_of_ble_eq_true rfl⟩ (ci := 0) rfl rfl (Nat.le_of_ble_eq_true rfl) g1 rfl rfl (Nat.le_of_ble_eq_true rfl) ⟨Nat.zero_le _, Nat.zero_le _⟩ ?_
    refine r_if_ne hX e_X0_findNext_38 (fun hc => ?_) (fun hc => ?_)
    · have hf := ite_f hf hc
      refine r_aload_n (i := 0) hX e_X0_findNext_44 rfl rfl ?_
      obtain ⟨r5, hr5, hf⟩ := bd_s hf
      refine r_getR hX hn e_X0_findNext_45 fl_0_26 rfl g1 hr5 ?_
      refine r_aload_n (i := 0) hX e_X0_findNext_48 rfl rfl ?_
      refine r_getR hX hn e_X0_findNext_49 fl_0_22 rfl g1 hr2 ?_
      obtain ⟨r6, hr6, hf⟩ := bd_s hf
      refine r_getR hX hn e_X0_findNext_52 fl_0_90 rfl g3 hr6 ?_
      refine r_iload_n (i := 2) hX e_X0_findNext_55 rfl rfl ?_
      obtain ⟨g7, hf⟩ := gd_s hf
      obtain ⟨r8, hr8, hf⟩ := bd_s hf
      refine r_aald hX hn e_X0_findNext_56 g7 (Nat.le_of_ble_eq_true rfl) rfl rfl rfl hr8 ?_
      refine r_iload_n (i := 1) hX e_X0_findNext_57 rfl rfl ?_
      obtain ⟨g9, hf⟩ := gd_s hf
      obtain ⟨v10, hv10, hf⟩ := bd_s hf
      refine r_cvi (As := fun K B => [.ref (B + r8), .int (x1)]) hX hn (t_X2_quietPrice hv10) e_X0_findNext_58 cw_X2_quietPrice cv_X2_quietPrice lk_0_94 ⟨Nat.le_of_ble_eq_true rfl, Nat.le_of_ble_eq_true rfl⟩ (ci := 2) rfl rfl (Nat.le_of_ble_eq_true rfl) g9 rfl rfl (Nat.le_of_ble_eq_true rfl) ⟨Nat.zero_le _, Nat.zero_le _⟩ ?_
      refine r_istore_n (i := 3) hX e_X0_findNext_61 rfl (Nat.le_of_ble_eq_true rfl) rfl ?_
      refine r_iload_n (i := 3) hX e_X0_findNext_62 rfl rfl ?_
      refine r_aload_n (i := 0) hX e_X0_findNext_63 rfl rfl ?_
      refine r_getI hX hn e_X0_findNext_64 fl_0_74 rfl g1 ?_
      refine r_icmp_ge hX e_X0_findNext_67 (fun hc => ?_) (fun hc => ?_)
      · have hf := ite_t hf hc
        refine r_iinc (v := x2 + 1) hX e_X0_findNext_85 rfl (ii_s ic_1) (Nat.le_of_ble_eq_true rfl) rfl ?_
        refine r_goto hX e_X0_findNext_88 ?_
        exact GoN.weak (hk21 M (x0) (x1) ((x2 + 1)) hf) rfl (sb_s (sb_s (sb_s (sb_n (sb_z _)))))
      · have hf := ite_f hf hc
        refine r_aload_n (i := 0) hX e_X0_findNext_70 rfl rfl ?_
        refine r_iload_n (i := 2) hX e_X0_findNext_71 rfl rfl ?_
        obtain ⟨M11, hM11, hf⟩ := nx_s hf
        refine r_putI hX hn hM11 e_X0_findNext_72 fl_0_100 fp_0_8 rfl g1 ?_
        refine r_aload_n (i := 0) hX e_X0_findNext_75 rfl rfl ?_
        refine r_iload_n (i := 1) hX e_X0_findNext_76 rfl rfl ?_
        obtain ⟨M12, hM12, hf⟩ := nx_s hf
        refine r_putI hX hn hM12 e_X0_findNext_77 fl_0_103 fp_0_9 rfl g1 ?_
        refine r_aload_n (i := 0) hX e_X0_findNext_80 rfl rfl ?_
        refine r_iload_n (i := 3) hX e_X0_findNext_81 rfl rfl ?_
        obtain ⟨M13, hM13, hf⟩ := nx_s hf
        refine r_putI hX hn hM13 e_X0_findNext_82 fl_0_74 fp_0_10 rfl g1 ?_
        refine r_iinc (v := x2 + 1) hX e_X0_findNext_85 rfl (ii_s ic_1) (Nat.le_of_ble_eq_true rfl) rfl ?_
        refine r_goto hX e_X0_findNext_88 ?_
        exact GoN.weak (hk21 M13 (x0) (x1) ((x2 + 1)) hf) rfl (sb_s (sb_s (sb_s (sb_n (sb_z _)))))
    · have hf := ite_t hf hc
      refine r_goto hX e_X0_findNext_41 ?_
      refine r_iinc (v := x2 + 1) hX e_X0_findNext_85 rfl (ii_s ic_1) (Nat.le_of_ble_eq_true rfl) rfl ?_
      refine r_goto hX e_X0_findNext_88 ?_
      exact GoN.weak (hk21 M (x0) (x1) ((x2 + 1)) hf) rfl (sb_s (sb_s (sb_s (sb_n (sb_z _)))))
theorem t_X0_findNext_21 {X : Cx} {res : Mem × Int32} {k8 : Mem → Nat → Int32 → Option (Mem × Int32)} (hX : OkX X cX0_findNext RX0 3 67) (hn : Fit X shC nC) (hR : RetI X shC nC .boolean res) (hk8 : ∀ M x0 x1, k8 M x0 x1 = some res → GoN X shC nC 0 0 M 8 [some (.ref (X.B + x0)), some (.int (x1)), none, none] []) : ∀ (n : Nat) (M : Mem) (x0 : Nat) (x1 : Int32) (x2 : Int32),  f_X0_findNext_21 k8 n M x0 x1 x2 = some res → GoN X shC nC 0 0 M 21 [some (.ref (X.B + x0)), some (.int (x1)), some (.int (x2)), none] [] := by
  intro n
  induction n with
  | zero => intro M x0 x1 x2 hf; cases hf
  | succ n ih => intro M x0 x1 x2 hf; exact t_s_X0_findNext_21 hX hn hR hk8 ih M x0 x1 x2 hf
theorem t_s_X0_findNext_8 {X : Cx} {res : Mem × Int32} {k8 : Mem → Nat → Int32 → Option (Mem × Int32)} (hX : OkX X cX0_findNext RX0 3 67) (hn : Fit X shC nC) (hR : RetI X shC nC .boolean res) (hk8 : ∀ M x0 x1, k8 M x0 x1 = some res → GoN X shC nC 0 0 M 8 [some (.ref (X.B + x0)), some (.int (x1)), none, none] []) (M : Mem) (x0 : Nat) (x1 : Int32) (hf : s_X0_findNext_8 k8 M x0 x1 = some res) : GoN X shC nC 0 0 M 8 [some (.ref (X.B + x0)), some (.int (x1)), none, none] [] := by
  refine r_iload_n (i := 1) hX e_X0_findNext_8 rfl rfl ?_
  refine r_aload_n (i := 0) hX e_X0_findNext_9 rfl rfl ?_
  obtain ⟨g1, hf⟩ := gd_s hf
  obtain ⟨r2, hr2, hf⟩ := bd_s hf
  refine r_getR hX hn e_X0_findNext_10 fl_0_22 rfl g1 hr2 ?_
  obtain ⟨g3, hf⟩ := gd_s hf
  refine r_getI hX hn e_X0_findNext_13 fl_0_80 rfl g3 ?_
  refine r_icmp_ge hX e_X0_findNext_16 (fun hc => ?_) (fun hc => ?_)
  · have hf := ite_t hf hc
    refine r_aload_n (i := 0) hX e_X0_findNext_97 rfl rfl ?_
    refine r_getI hX hn e_X0_findNext_98 fl_0_74 rfl g1 ?_
    refine r_bipush hX e_X0_findNext_101 bc_99 ?_
    refine r_icmp_gt hX e_X0_findNext_103 (fun hc => ?_) (fun hc => ?_)
    · have hf := ite_t hf hc
      refine r_iconst hX e_X0_findNext_110 ic_0 ?_
      exact r_zret hX hR rfl e_X0_findNext_111 hf
    · have hf := ite_f hf hc
      refine r_iconst hX e_X0_findNext_106 ic_1 ?_
      refine r_goto hX e_X0_findNext_107 ?_
      exact r_zret hX hR rfl e_X0_findNext_111 hf
  · have hf := ite_f hf hc
    refine r_iconst hX e_X0_findNext_19 ic_0 ?_
    refine r_istore_n (i := 2) hX e_X0_findNext_20 rfl (Nat.le_of_ble_eq_true rfl) rfl ?_
    exact GoN.weak (t_X0_findNext_21 hX hn hR hk8 FU M (x0) (x1) (0) hf) rfl (sb_s (sb_s (sb_s (sb_n (sb_z _)))))
theorem t_X0_findNext_8 {X : Cx} {res : Mem × Int32}  (hX : OkX X cX0_findNext RX0 3 67) (hn : Fit X shC nC) (hR : RetI X shC nC .boolean res)  : ∀ (n : Nat) (M : Mem) (x0 : Nat) (x1 : Int32),  f_X0_findNext_8  n M x0 x1 = some res → GoN X shC nC 0 0 M 8 [some (.ref (X.B + x0)), some (.int (x1)), none, none] [] := by
  intro n
  induction n with
  | zero => intro M x0 x1 hf; cases hf
  | succ n ih => intro M x0 x1 hf; exact t_s_X0_findNext_8 hX hn hR  ih M x0 x1 hf
theorem t_X0_findNext {l : Launch} {M : Mem} {a0 : Nat} {res : Mem × Int32} (hf : f_X0_findNext M a0 = some res) : Ci l yX0_findNext cX0_findNext 4 (some .boolean) 3 67 shC nC (fun K B => [.ref (B + a0)]) M res := by
  refine met_i (own := RX0) (lo := fun K B => [some (.ref (B + a0)), none, none, none]) (by decide +kernel) rfl shC_ok (fun _ _ => rfl) (fun _ _ => rfl) (fun _ _ => Nat.le_of_ble_eq_true rfl) (fun X hX hn hlx hR => ?_)
  refine r_aload_n (i := 0) hX e_X0_findNext_0 rfl rfl ?_
  refine r_bipush hX e_X0_findNext_1 bc_100 ?_
  obtain ⟨g1, hf⟩ := gd_s hf
  obtain ⟨M2, hM2, hf⟩ := nx_s hf
  refine r_putI hX hn hM2 e_X0_findNext_3 fl_0_74 fp_0_10 rfl g1 ?_
  refine r_iconst hX e_X0_findNext_6 ic_0 ?_
  refine r_istore_n (i := 1) hX e_X0_findNext_7 rfl (Nat.le_of_ble_eq_true rfl) rfl ?_
  exact GoN.weak (t_X0_findNext_8 hX hn hR FU M2 (a0) (0) hf) rfl (sb_s (sb_s (sb_n (sb_n (sb_z _)))))
def f_X0_takeNext_38  (M : Mem) (x0 : Nat) : Option (Mem) :=
  gd (oB shC x0 0) <| bd (gR M x0 7) fun r2 => gd (aB shC r2 1 (gI M x0 8)) <| nx (((gL M r2 ((gI M x0 8) : Int32).toNatClampNeg) ||| (1 <<< (((gI M x0 9) : Int32).toInt64 &&& 63)))) fun v4 => nx (sL M r2 ((gI M x0 8) : Int32).toNatClampNeg v4) fun M5 => bd (gR M5 x0 2) fun r6 => gd (aB shC r6 0 (gI M5 x0 9)) <| nx ((gI M5 r6 ((gI M5 x0 9) : Int32).toNatClampNeg)) fun v8 => nx (sI M5 r6 ((gI M5 x0 9) : Int32).toNatClampNeg (v8 + 1)) fun M9 => nx (sI M9 x0 1 ((gI M9 x0 1) + (gI M9 x0 10))) fun M10 => nx (sI M10 x0 0 ((gI M10 x0 0) + 1)) fun M11 => some M11
def f_X0_takeNext (M : Mem) (a0 : Nat) : Option (Mem) :=
  gd (oB shC a0 0) <| bd (gR M a0 5) fun r2 => bd (gR M a0 3) fun r3 => gd (oB shC r3 4) <| bd (gR M r3 7) fun r5 => gd (aB shC r5 5 (gI M a0 8)) <| bd (gR M r5 ((gI M a0 8) : Int32).toNatClampNeg) fun r7 => gd (oB shC r7 9) <| gd (oB shC r2 1) <| bd (f_X1_wantOf M r2 (gI M r7 2)) fun v10 => if v10 = (-1) then f_X0_takeNext_38 M (a0) else bd (gR M a0 6) fun r11 => gd (aB shC r11 0 v10) <| nx (sI M r11 (v10 : Int32).toNatClampNeg ((gI M r11 (v10 : Int32).toNatClampNeg) - 1)) fun M13 => f_X0_takeNext_38 M13 (a0)
theorem t_X0_takeNext_38 {X : Cx} {res : Mem}  (hX : OkX X cX0_takeNext RX0 1 22) (hn : Fit X shC nC) (hR : RetV X shC nC res)  (M : Mem) (x0 : Nat) (hf : f_X0_takeNext_38  M x0 = some res) : GoN X shC nC 0 0 M 38 [some (.ref (X.B + x0)), none] [] := by
  refine r_aload_n (i := 0) hX e_X0_takeNext_38 rfl rfl ?_
  obtain ⟨g1, hf⟩ := gd_s hf
  obtain ⟨r2, hr2, hf⟩ := bd_s hf
  refine r_getR hX hn e_X0_takeNext_39 fl_0_18 rfl g1 hr2 ?_
  refine r_aload_n (i := 0) hX e_X0_takeNext_42 rfl rfl ?_
  refine r_getI hX hn e_X0_takeNext_43 fl_0_100 rfl g1 ?_
  refine r_dup2_11 hX e_X0_takeNext_46 rfl rfl ?_
  obtain ⟨g3, hf⟩ := gd_s hf
  refine r_lald hX hn e_X0_takeNext_47 g3 ?_
  refine r_lconst hX e_X0_takeNext_48 lc_1 ?_
  refine r_aload_n (i := 0) hX e_X0_takeNext_49 rfl rfl ?_
  refine r_getI hX hn e_X0_takeNext_50 fl_0_103 rfl g1 ?_
  refine r_lshl hX e_X0_takeNext_53 ?_
  refine r_lor hX e_X0_takeNext_54 ?_
  obtain ⟨v4, hv4, hf⟩ := nx_s hf
  refine top_l hv4 ?_
  obtain ⟨M5, hM5, hf⟩ := nx_s hf
  refine r_last hX hn hM5 e_X0_takeNext_55 g3 ?_
  refine r_aload_n (i := 0) hX e_X0_takeNext_56 rfl rfl ?_
  obtain ⟨r6, hr6, hf⟩ := bd_s hf
  refine r_getR hX hn e_X0_takeNext_57 fl_0_9 rfl g1 hr6 ?_
  refine r_aload_n (i := 0) hX e_X0_takeNext_60 rfl rfl ?_
  refine r_getI hX hn e_X0_takeNext_61 fl_0_103 rfl g1 ?_
  refine r_dup2_11 hX e_X0_takeNext_64 rfl rfl ?_
  obtain ⟨g7, hf⟩ := gd_s hf
  refine r_iald hX hn e_X0_takeNext_65 g7 ?_
  obtain ⟨v8, hv8, hf⟩ := nx_s hf
  refine top_i hv8 ?_
  refine r_iconst hX e_X0_takeNext_66 ic_1 ?_
  refine r_iadd hX e_X0_takeNext_67 ?_
  obtain ⟨M9, hM9, hf⟩ := nx_s hf
  refine r_iast hX hn hM9 e_X0_takeNext_68 g7 ?_
  refine r_aload_n (i := 0) hX e_X0_takeNext_69 rfl rfl ?_
  refine r_dup hX e_X0_takeNext_70 rfl ?_
  refine r_getI hX hn e_X0_takeNext_71 fl_0_44 rfl g1 ?_
  refine r_aload_n (i := 0) hX e_X0_takeNext_74 rfl rfl ?_
  refine r_getI hX hn e_X0_takeNext_75 fl_0_74 rfl g1 ?_
  refine r_iadd hX e_X0_takeNext_78 ?_
  obtain ⟨M10, hM10, hf⟩ := nx_s hf
  refine r_putI hX hn hM10 e_X0_takeNext_79 fl_0_44 fp_0_1 rfl g1 ?_
  refine r_aload_n (i := 0) hX e_X0_takeNext_82 rfl rfl ?_
  refine r_dup hX e_X0_takeNext_83 rfl ?_
  refine r_getI hX hn e_X0_takeNext_84 fl_0_40 rfl g1 ?_
  refine r_iconst hX e_X0_takeNext_87 ic_1 ?_
  refine r_iadd hX e_X0_takeNext_88 ?_
  obtain ⟨M11, hM11, hf⟩ := nx_s hf
  refine r_putI hX hn hM11 e_X0_takeNext_89 fl_0_40 fp_0_0 rfl g1 ?_
  exact r_ret hX hR e_X0_takeNext_92 hf
theorem t_X0_takeNext {l : Launch} {M : Mem} {a0 : Nat} {res : Mem} (hf : f_X0_takeNext M a0 = some res) : Cv l yX0_takeNext cX0_takeNext 2 none 1 22 shC nC (fun K B => [.ref (B + a0)]) M res := by
  refine met_v (own := RX0) (lo := fun K B => [some (.ref (B + a0)), none]) (by decide +kernel) rfl shC_ok (fun _ _ => rfl) (fun _ _ => rfl) (fun _ _ => Nat.le_of_ble_eq_true rfl) (fun X hX hn hlx hR => ?_)
  refine r_aload_n (i := 0) hX e_X0_takeNext_0 rfl rfl ?_
  obtain ⟨g1, hf⟩ := gd_s hf
  obtain ⟨r2, hr2, hf⟩ := bd_s hf
  refine r_getR hX hn e_X0_takeNext_1 fl_0_36 rfl g1 hr2 ?_
  refine r_aload_n (i := 0) hX e_X0_takeNext_4 rfl rfl ?_
  obtain ⟨r3, hr3, hf⟩ := bd_s hf
  refine r_getR hX hn e_X0_takeNext_5 fl_0_22 rfl g1 hr3 ?_
  obtain ⟨g4, hf⟩ := gd_s hf
  obtain ⟨r5, hr5, hf⟩ := bd_s hf
  refine r_getR hX hn e_X0_takeNext_8 fl_0_90 rfl g4 hr5 ?_
  refine r_aload_n (i := 0) hX e_X0_takeNext_11 rfl rfl ?_
  refine r_getI hX hn e_X0_takeNext_12 fl_0_100 rfl g1 ?_
  obtain ⟨g6, hf⟩ := gd_s hf
  obtain ⟨r7, hr7, hf⟩ := bd_s hf
  refine r_aald hX hn e_X0_takeNext_15 g6 (Nat.le_of_ble_eq_true rfl) rfl rfl rfl hr7 ?_
  obtain ⟨g8, hf⟩ := gd_s hf
  refine r_getI hX hn e_X0_takeNext_16 fl_0_112 rfl g8 ?_
  obtain ⟨g9, hf⟩ := gd_s hf
  obtain ⟨v10, hv10, hf⟩ := bd_s hf
  refine r_cvi (As := fun K B => [.int ((gI M r7 2))]) hX hn (t_X1_wantOf hv10) e_X0_takeNext_19 cw_X1_wantOf cv_X1_wantOf lk_0_117 ⟨Nat.le_of_ble_eq_true rfl, Nat.le_of_ble_eq_true rfl⟩ (ci := 1) rfl rfl (Nat.le_of_ble_eq_true rfl) g9 rfl rfl (Nat.le_of_ble_eq_true rfl) ⟨Nat.zero_le _, Nat.zero_le _⟩ ?_
  refine r_istore_n (i := 1) hX e_X0_takeNext_22 rfl (Nat.le_of_ble_eq_true rfl) rfl ?_
  refine r_iload_n (i := 1) hX e_X0_takeNext_23 rfl rfl ?_
  refine r_iconst hX e_X0_takeNext_24 ic_m1 ?_
  refine r_icmp_eq hX e_X0_takeNext_25 (fun hc => ?_) (fun hc => ?_)
  · have hf := ite_t hf hc
    exact GoN.weak (t_X0_takeNext_38 hX hn hR M (a0) hf) rfl (sb_s (sb_n (sb_z _)))
  · have hf := ite_f hf hc
    refine r_aload_n (i := 0) hX e_X0_takeNext_28 rfl rfl ?_
    obtain ⟨r11, hr11, hf⟩ := bd_s hf
    refine r_getR hX hn e_X0_takeNext_29 fl_0_15 rfl g1 hr11 ?_
    refine r_iload_n (i := 1) hX e_X0_takeNext_32 rfl rfl ?_
    refine r_dup2_11 hX e_X0_takeNext_33 rfl rfl ?_
    obtain ⟨g12, hf⟩ := gd_s hf
    refine r_iald hX hn e_X0_takeNext_34 g12 ?_
    refine r_iconst hX e_X0_takeNext_35 ic_1 ?_
    refine r_isub hX e_X0_takeNext_36 ?_
    obtain ⟨M13, hM13, hf⟩ := nx_s hf
    refine r_iast hX hn hM13 e_X0_takeNext_37 g12 ?_
    exact GoN.weak (t_X0_takeNext_38 hX hn hR M13 (a0) hf) rfl (sb_s (sb_n (sb_z _)))
def s_X0_shop_75 (k75 : Mem → Nat → Int32 → Int32 → Int32 → Option (Mem)) (M : Mem) (x0 : Nat) (x4 : Int32) (x5 : Int32) (x6 : Int32) : Option (Mem) :=
  if x5 ≤ x6 then some M else gd (oB shC x0 0) <| bd (f_X0_findNext M x0) fun u2 => if u2.2 = 0 then some u2.1 else if (x4 - (gI u2.1 x0 1)) < (gI u2.1 x0 10) then some u2.1 else bd (f_X0_takeNext u2.1 x0) fun u3 => k75 u3 (x0) (x4) (x5) ((x6 + 1))
def f_X0_shop_75  : Nat → Mem → Nat → Int32 → Int32 → Int32 → Option (Mem)
  | 0 => fun _ _ _ _ _ => none
  | n + 1 => fun y0 y1 y2 y3 y4 => s_X0_shop_75  (f_X0_shop_75  n) y0 y1 y2 y3 y4
def f_X0_shop (M : Mem) (a0 : Nat) (a1 : Nat) (a2 : Nat) (a3 : Int32) (a4 : Int32) : Option (Mem) :=
  gd (oB shC a0 0) <| nx (sR M a0 3 (some a1)) fun M2 => nx (sR M2 a0 4 (some a2)) fun M3 => gd (oB shC a1 4) <| bd (gR M3 a1 8) fun r5 => gd (aB shC r5 6 a3) <| bd (gR M3 r5 (a3 : Int32).toNatClampNeg) fun r7 => nx (sR M3 a0 5 (some r7)) fun M8 => nx (sI M8 a0 0 0) fun M9 => nx (sI M9 a0 1 0) fun M10 => bd (gR M10 a0 2) fun r11 => bd (f_X21_fillI M10 r11 0) fun u12 => bd (gR u12 a0 7) fun r13 => bd (f_X21_fillJ u12 r13 0) fun u14 => bd (gR u14 a0 5) fun r15 => gd (oB shC r15 1) <| bd (gR u14 r15 5) fun r17 => bd (gR u14 a0 6) fun r18 => gd (cB shC 0 r17 0 r18 0 3) <| nx (cpI u14 r17 (0 : Int32).toNatClampNeg r18 (0 : Int32).toNatClampNeg (3 : Int32).toNatClampNeg) fun M20 => bd (f_X1_wanted M20 r15) fun v21 => f_X0_shop_75 FU M20 (a0) (a4) (v21) (0)
theorem t_s_X0_shop_75 {X : Cx} {res : Mem} {k75 : Mem → Nat → Int32 → Int32 → Int32 → Option (Mem)} (hX : OkX X cX0_shop RX0 4 90) (hn : Fit X shC nC) (hR : RetV X shC nC res) (hk75 : ∀ M x0 x4 x5 x6, k75 M x0 x4 x5 x6 = some res → GoN X shC nC 0 0 M 75 [some (.ref (X.B + x0)), none, none, none, some (.int (x4)), some (.int (x5)), some (.int (x6))] []) (M : Mem) (x0 : Nat) (x4 : Int32) (x5 : Int32) (x6 : Int32) (hf : s_X0_shop_75 k75 M x0 x4 x5 x6 = some res) : GoN X shC nC 0 0 M 75 [some (.ref (X.B + x0)), none, none, none, some (.int (x4)), some (.int (x5)), some (.int (x6))] [] := by
  refine r_iload hX e_X0_shop_75 rfl ?_
  refine r_iload hX e_X0_shop_77 rfl ?_
  refine r_icmp_ge hX e_X0_shop_79 (fun hc => ?_) (fun hc => ?_)
  · have hf := ite_t hf hc
    exact r_ret hX hR e_X0_shop_113 hf
  · have hf := ite_f hf hc
    refine r_aload_n (i := 0) hX e_X0_shop_82 rfl rfl ?_
    obtain ⟨g1, hf⟩ := gd_s hf
    obtain ⟨u2, hu2, hf⟩ := bd_s hf
    refine r_cvi (As := fun K B => []) hX hn (t_X0_findNext hu2) e_X0_shop_83 cw_X0_findNext cv_X0_findNext lk_0_70 ⟨Nat.le_of_ble_eq_true rfl, Nat.le_of_ble_eq_true rfl⟩ (ci := 0) rfl rfl (Nat.le_of_ble_eq_true rfl) g1 rfl rfl (Nat.le_of_ble_eq_true rfl) ⟨Nat.zero_le _, Nat.zero_le _⟩ ?_
    refine r_if_eq hX e_X0_shop_86 (fun hc => ?_) (fun hc => ?_)
    · have hf := ite_t hf hc
      exact r_ret hX hR e_X0_shop_113 hf
    · have hf := ite_f hf hc
      refine r_aload_n (i := 0) hX e_X0_shop_89 rfl rfl ?_
      refine r_getI hX hn e_X0_shop_90 fl_0_74 rfl g1 ?_
      refine r_iload hX e_X0_shop_93 rfl ?_
      refine r_aload_n (i := 0) hX e_X0_shop_95 rfl rfl ?_
      refine r_getI hX hn e_X0_shop_96 fl_0_44 rfl g1 ?_
      refine r_isub hX e_X0_shop_99 ?_
      refine r_icmp_gt hX e_X0_shop_100 (fun hc => ?_) (fun hc => ?_)
      · have hf := ite_t hf hc
        exact r_ret hX hR e_X0_shop_113 hf
      · have hf := ite_f hf hc
        refine r_aload_n (i := 0) hX e_X0_shop_103 rfl rfl ?_
        obtain ⟨u3, hu3, hf⟩ := bd_s hf
        refine r_cvv (As := fun K B => []) hX hn (t_X0_takeNext hu3) e_X0_shop_104 cw_X0_takeNext cv_X0_takeNext lk_0_77 ⟨Nat.le_of_ble_eq_true rfl, Nat.le_of_ble_eq_true rfl⟩ (ci := 0) rfl rfl (Nat.le_of_ble_eq_true rfl) g1 rfl rfl (Nat.le_of_ble_eq_true rfl) ⟨Nat.zero_le _, Nat.zero_le _⟩ ?_
        refine r_iinc (v := x6 + 1) hX e_X0_shop_107 rfl (ii_s ic_1) (Nat.le_of_ble_eq_true rfl) rfl ?_
        refine r_goto hX e_X0_shop_110 ?_
        exact GoN.weak (hk75 u3 (x0) (x4) (x5) ((x6 + 1)) hf) rfl (sb_s (sb_n (sb_n (sb_n (sb_s (sb_s (sb_s (sb_z _))))))))
theorem t_X0_shop_75 {X : Cx} {res : Mem}  (hX : OkX X cX0_shop RX0 4 90) (hn : Fit X shC nC) (hR : RetV X shC nC res)  : ∀ (n : Nat) (M : Mem) (x0 : Nat) (x4 : Int32) (x5 : Int32) (x6 : Int32),  f_X0_shop_75  n M x0 x4 x5 x6 = some res → GoN X shC nC 0 0 M 75 [some (.ref (X.B + x0)), none, none, none, some (.int (x4)), some (.int (x5)), some (.int (x6))] [] := by
  intro n
  induction n with
  | zero => intro M x0 x4 x5 x6 hf; cases hf
  | succ n ih => intro M x0 x4 x5 x6 hf; exact t_s_X0_shop_75 hX hn hR  ih M x0 x4 x5 x6 hf
theorem t_X0_shop {l : Launch} {M : Mem} {a0 a1 a2 : Nat} {a3 a4 : Int32} {res : Mem} (hf : f_X0_shop M a0 a1 a2 a3 a4 = some res) : Cv l yX0_shop cX0_shop 7 none 4 90 shC nC (fun K B => [.ref (B + a0), .ref (B + a1), .ref (B + a2), .int a3, .int a4]) M res := by
  refine met_v (own := RX0) (lo := fun K B => [some (.ref (B + a0)), some (.ref (B + a1)), some (.ref (B + a2)), some (.int a3), some (.int a4), none, none]) (by decide +kernel) rfl shC_ok (fun _ _ => rfl) (fun _ _ => rfl) (fun _ _ => Nat.le_of_ble_eq_true rfl) (fun X hX hn hlx hR => ?_)
  refine r_aload_n (i := 0) hX e_X0_shop_0 rfl rfl ?_
  refine r_aload_n (i := 1) hX e_X0_shop_1 rfl rfl ?_
  obtain ⟨g1, hf⟩ := gd_s hf
  obtain ⟨M2, hM2, hf⟩ := nx_s hf
  refine r_putR hX hn hM2 e_X0_shop_2 fl_0_22 fp_0_3 rfl g1 rfl rfl ?_
  refine r_aload_n (i := 0) hX e_X0_shop_5 rfl rfl ?_
  refine r_aload_n (i := 2) hX e_X0_shop_6 rfl rfl ?_
  obtain ⟨M3, hM3, hf⟩ := nx_s hf
  refine r_putR hX hn hM3 e_X0_shop_7 fl_0_26 fp_0_4 rfl g1 rfl rfl ?_
  refine r_aload_n (i := 0) hX e_X0_shop_10 rfl rfl ?_
  refine r_aload_n (i := 1) hX e_X0_shop_11 rfl rfl ?_
  obtain ⟨g4, hf⟩ := gd_s hf
  obtain ⟨r5, hr5, hf⟩ := bd_s hf
  refine r_getR hX hn e_X0_shop_12 fl_0_30 rfl g4 hr5 ?_
  refine r_iload_n (i := 3) hX e_X0_shop_15 rfl rfl ?_
  obtain ⟨g6, hf⟩ := gd_s hf
  obtain ⟨r7, hr7, hf⟩ := bd_s hf
  refine r_aald hX hn e_X0_shop_16 g6 (Nat.le_of_ble_eq_true rfl) rfl rfl rfl hr7 ?_
  obtain ⟨M8, hM8, hf⟩ := nx_s hf
  refine r_putR hX hn hM8 e_X0_shop_17 fl_0_36 fp_0_5 rfl g1 rfl rfl ?_
  refine r_aload_n (i := 0) hX e_X0_shop_20 rfl rfl ?_
  refine r_iconst hX e_X0_shop_21 ic_0 ?_
  obtain ⟨M9, hM9, hf⟩ := nx_s hf
  refine r_putI hX hn hM9 e_X0_shop_22 fl_0_40 fp_0_0 rfl g1 ?_
  refine r_aload_n (i := 0) hX e_X0_shop_25 rfl rfl ?_
  refine r_iconst hX e_X0_shop_26 ic_0 ?_
  obtain ⟨M10, hM10, hf⟩ := nx_s hf
  refine r_putI hX hn hM10 e_X0_shop_27 fl_0_44 fp_0_1 rfl g1 ?_
  refine r_aload_n (i := 0) hX e_X0_shop_30 rfl rfl ?_
  obtain ⟨r11, hr11, hf⟩ := bd_s hf
  refine r_getR hX hn e_X0_shop_31 fl_0_9 rfl g1 hr11 ?_
  refine r_iconst hX e_X0_shop_34 ic_0 ?_
  obtain ⟨u12, hu12, hf⟩ := bd_s hf
  refine r_csv (As := fun K B => [.ref (B + r11), .int (0)]) hX hn (t_X21_fillI hu12) e_X0_shop_35 cw_X21_fillI cv_X21_fillI lk_0_47 ⟨Nat.le_of_ble_eq_true rfl, Nat.le_of_ble_eq_true rfl⟩ rfl rfl (Nat.le_of_ble_eq_true rfl) ⟨Nat.zero_le _, Nat.zero_le _⟩ ?_
  refine r_aload_n (i := 0) hX e_X0_shop_38 rfl rfl ?_
  obtain ⟨r13, hr13, hf⟩ := bd_s hf
  refine r_getR hX hn e_X0_shop_39 fl_0_18 rfl g1 hr13 ?_
  refine r_lconst hX e_X0_shop_42 lc_0 ?_
  obtain ⟨u14, hu14, hf⟩ := bd_s hf
  refine r_csv (As := fun K B => [.ref (B + r13), .long (0)]) hX hn (t_X21_fillJ hu14) e_X0_shop_43 cw_X21_fillJ cv_X21_fillJ lk_0_53 ⟨Nat.le_of_ble_eq_true rfl, Nat.le_of_ble_eq_true rfl⟩ rfl rfl (Nat.le_of_ble_eq_true rfl) ⟨Nat.zero_le _, Nat.zero_le _⟩ ?_
  refine r_aload_n (i := 0) hX e_X0_shop_46 rfl rfl ?_
  obtain ⟨r15, hr15, hf⟩ := bd_s hf
  refine r_getR hX hn e_X0_shop_47 fl_0_36 rfl g1 hr15 ?_
  obtain ⟨g16, hf⟩ := gd_s hf
  obtain ⟨r17, hr17, hf⟩ := bd_s hf
  refine r_getR hX hn e_X0_shop_50 fl_0_56 rfl g16 hr17 ?_
  refine r_iconst hX e_X0_shop_53 ic_0 ?_
  refine r_aload_n (i := 0) hX e_X0_shop_54 rfl rfl ?_
  obtain ⟨r18, hr18, hf⟩ := bd_s hf
  refine r_getR hX hn e_X0_shop_55 fl_0_15 rfl g1 hr18 ?_
  refine r_iconst hX e_X0_shop_58 ic_0 ?_
  refine r_iconst hX e_X0_shop_59 ic_3 ?_
  obtain ⟨g19, hf⟩ := gd_s hf
  obtain ⟨M20, hM20, hf⟩ := nx_s hf
  refine r_cpI hX hn hM20 e_X0_shop_60 cp_0_60 g19 (Nat.le_of_ble_eq_true rfl) (Nat.le_of_ble_eq_true rfl) ?_
  refine r_aload_n (i := 0) hX e_X0_shop_63 rfl rfl ?_
  refine r_getR hX hn e_X0_shop_64 fl_0_36 rfl g1 (gR_kC hM20 hr15) ?_
  obtain ⟨v21, hv21, hf⟩ := bd_s hf
  refine r_cvi (As := fun K B => []) hX hn (t_X1_wanted hv21) e_X0_shop_67 cw_X1_wanted cv_X1_wanted lk_0_66 ⟨Nat.le_of_ble_eq_true rfl, Nat.le_of_ble_eq_true rfl⟩ (ci := 1) rfl rfl (Nat.le_of_ble_eq_true rfl) g16 rfl rfl (Nat.le_of_ble_eq_true rfl) ⟨Nat.zero_le _, Nat.zero_le _⟩ ?_
  refine r_istore hX e_X0_shop_70 (Nat.le_of_ble_eq_true rfl) rfl ?_
  refine r_iconst hX e_X0_shop_72 ic_0 ?_
  refine r_istore hX e_X0_shop_73 (Nat.le_of_ble_eq_true rfl) rfl ?_
  exact GoN.weak (t_X0_shop_75 hX hn hR FU M20 (a0) (a4) (v21) (0) hf) rfl (sb_s (sb_n (sb_n (sb_n (sb_s (sb_s (sb_s (sb_z _))))))))
def f_X1_take (M : Mem) (a0 : Nat) (a1 : Nat) : Option (Mem) :=
  gd (oB shC a1 1) <| gd (oB shC a0 1) <| nx (sI M a0 0 (gI M a1 0)) fun M3 => nx (sI M3 a0 1 (gI M3 a1 1)) fun M4 => nx (sI M4 a0 2 (gI M4 a1 2)) fun M5 => nx (sI M5 a0 3 (gI M5 a1 3)) fun M6 => bd (gR M6 a1 4) fun r7 => bd (gR M6 a0 4) fun r8 => gd (cB shC 0 r7 0 r8 0 3) <| nx (cpI M6 r7 (0 : Int32).toNatClampNeg r8 (0 : Int32).toNatClampNeg (3 : Int32).toNatClampNeg) fun M10 => bd (gR M10 a1 5) fun r11 => bd (gR M10 a0 5) fun r12 => gd (cB shC 0 r11 0 r12 0 3) <| nx (cpI M10 r11 (0 : Int32).toNatClampNeg r12 (0 : Int32).toNatClampNeg (3 : Int32).toNatClampNeg) fun M14 => bd (gR M14 a1 6) fun r15 => bd (gR M14 a0 6) fun r16 => gd (cB shC 0 r15 0 r16 0 3) <| nx (cpI M14 r15 (0 : Int32).toNatClampNeg r16 (0 : Int32).toNatClampNeg (3 : Int32).toNatClampNeg) fun M18 => some M18
theorem t_X1_take {l : Launch} {M : Mem} {a0 a1 : Nat} {res : Mem} (hf : f_X1_take M a0 a1 = some res) : Cv l yX1_take cX1_take 2 none 1 26 shC nC (fun K B => [.ref (B + a0), .ref (B + a1)]) M res := by
  refine met_v (own := RX1) (lo := fun K B => [some (.ref (B + a0)), some (.ref (B + a1))]) (by decide +kernel) rfl shC_ok (fun _ _ => rfl) (fun _ _ => rfl) (fun _ _ => Nat.le_of_ble_eq_true rfl) (fun X hX hn hlx hR => ?_)
  refine r_aload_n (i := 0) hX e_X1_take_0 rfl rfl ?_
  refine r_aload_n (i := 1) hX e_X1_take_1 rfl rfl ?_
  obtain ⟨g1, hf⟩ := gd_s hf
  refine r_getI hX hn e_X1_take_2 fl_1_21 rfl g1 ?_
  obtain ⟨g2, hf⟩ := gd_s hf
  obtain ⟨M3, hM3, hf⟩ := nx_s hf
  refine r_putI hX hn hM3 e_X1_take_5 fl_1_21 fp_1_0 rfl g2 ?_
  refine r_aload_n (i := 0) hX e_X1_take_8 rfl rfl ?_
  refine r_aload_n (i := 1) hX e_X1_take_9 rfl rfl ?_
  refine r_getI hX hn e_X1_take_10 fl_1_25 rfl g1 ?_
  obtain ⟨M4, hM4, hf⟩ := nx_s hf
  refine r_putI hX hn hM4 e_X1_take_13 fl_1_25 fp_1_1 rfl g2 ?_
  refine r_aload_n (i := 0) hX e_X1_take_16 rfl rfl ?_
  refine r_aload_n (i := 1) hX e_X1_take_17 rfl rfl ?_
  refine r_getI hX hn e_X1_take_18 fl_1_28 rfl g1 ?_
  obtain ⟨M5, hM5, hf⟩ := nx_s hf
  refine r_putI hX hn hM5 e_X1_take_21 fl_1_28 fp_1_2 rfl g2 ?_
  refine r_aload_n (i := 0) hX e_X1_take_24 rfl rfl ?_
  refine r_aload_n (i := 1) hX e_X1_take_25 rfl rfl ?_
  refine r_getI hX hn e_X1_take_26 fl_1_31 rfl g1 ?_
  obtain ⟨M6, hM6, hf⟩ := nx_s hf
  refine r_putI hX hn hM6 e_X1_take_29 fl_1_31 fp_1_3 rfl g2 ?_
  refine r_aload_n (i := 1) hX e_X1_take_32 rfl rfl ?_
  obtain ⟨r7, hr7, hf⟩ := bd_s hf
  refine r_getR hX hn e_X1_take_33 fl_1_9 rfl g1 hr7 ?_
  refine r_iconst hX e_X1_take_36 ic_0 ?_
  refine r_aload_n (i := 0) hX e_X1_take_37 rfl rfl ?_
  obtain ⟨r8, hr8, hf⟩ := bd_s hf
  refine r_getR hX hn e_X1_take_38 fl_1_9 rfl g2 hr8 ?_
  refine r_iconst hX e_X1_take_41 ic_0 ?_
  refine r_iconst hX e_X1_take_42 ic_3 ?_
  obtain ⟨g9, hf⟩ := gd_s hf
  obtain ⟨M10, hM10, hf⟩ := nx_s hf
  refine r_cpI hX hn hM10 e_X1_take_43 cp_1_34 g9 (Nat.le_of_ble_eq_true rfl) (Nat.le_of_ble_eq_true rfl) ?_
  refine r_aload_n (i := 1) hX e_X1_take_46 rfl rfl ?_
  obtain ⟨r11, hr11, hf⟩ := bd_s hf
  refine r_getR hX hn e_X1_take_47 fl_1_15 rfl g1 hr11 ?_
  refine r_iconst hX e_X1_take_50 ic_0 ?_
  refine r_aload_n (i := 0) hX e_X1_take_51 rfl rfl ?_
  obtain ⟨r12, hr12, hf⟩ := bd_s hf
  refine r_getR hX hn e_X1_take_52 fl_1_15 rfl g2 hr12 ?_
  refine r_iconst hX e_X1_take_55 ic_0 ?_
  refine r_iconst hX e_X1_take_56 ic_3 ?_
  obtain ⟨g13, hf⟩ := gd_s hf
  obtain ⟨M14, hM14, hf⟩ := nx_s hf
  refine r_cpI hX hn hM14 e_X1_take_57 cp_1_34 g13 (Nat.le_of_ble_eq_true rfl) (Nat.le_of_ble_eq_true rfl) ?_
  refine r_aload_n (i := 1) hX e_X1_take_60 rfl rfl ?_
  obtain ⟨r15, hr15, hf⟩ := bd_s hf
  refine r_getR hX hn e_X1_take_61 fl_1_18 rfl g1 hr15 ?_
  refine r_iconst hX e_X1_take_64 ic_0 ?_
  refine r_aload_n (i := 0) hX e_X1_take_65 rfl rfl ?_
  obtain ⟨r16, hr16, hf⟩ := bd_s hf
  refine r_getR hX hn e_X1_take_66 fl_1_18 rfl g2 hr16 ?_
  refine r_iconst hX e_X1_take_69 ic_0 ?_
  refine r_iconst hX e_X1_take_70 ic_3 ?_
  obtain ⟨g17, hf⟩ := gd_s hf
  obtain ⟨M18, hM18, hf⟩ := nx_s hf
  refine r_cpI hX hn hM18 e_X1_take_71 cp_1_34 g17 (Nat.le_of_ble_eq_true rfl) (Nat.le_of_ble_eq_true rfl) ?_
  exact r_ret hX hR e_X1_take_74 hf
def f_X2_turnRing_53 (k8 : Mem → Nat → Nat → Int32 → Int32 → Int32 → Int32 → Option (Mem)) (M : Mem) (x0 : Nat) (x1 : Nat) (x2 : Int32) (x3 : Int32) (x4 : Int32) (x5 : Int32) : Option (Mem) :=
  gd (aB shC x1 0 x5) <| nx (sI M x1 (x5 : Int32).toNatClampNeg x3) fun M2 => k8 M2 (x0) (x1) (x2) (x3) (x4) ((x5 + 1))
def f_X2_turnRing_50 (k8 : Mem → Nat → Nat → Int32 → Int32 → Int32 → Int32 → Option (Mem)) (M : Mem) (x0 : Nat) (x1 : Nat) (x2 : Int32) (x3 : Int32) (x4 : Int32) (x5 : Int32) : Option (Mem) :=
  f_X2_turnRing_53 k8 M (x0) (x1) (x2) (x3) ((x4 + 1)) (x5)
def s_X2_turnRing_8 (k8 : Mem → Nat → Nat → Int32 → Int32 → Int32 → Int32 → Option (Mem)) (M : Mem) (x0 : Nat) (x1 : Nat) (x2 : Int32) (x3 : Int32) (x4 : Int32) (x5 : Int32) : Option (Mem) :=
  if x2 ≤ x5 then some M else gd (oB shC x0 7) <| nx (((gL M x0 2) >>> ((x5 : Int32).toInt64 &&& 63))) fun v2 => if (lg_cmp (v2 &&& 1) 0) = 0 then if (gI M x0 0) ≤ 0 then f_X2_turnRing_50 k8 M (x0) (x1) (x2) (x3) (x4) (x5) else if x4 = (gI M x0 0) then f_X2_turnRing_50 k8 M (x0) (x1) (x2) ((x3 + 1)) (0) (x5) else f_X2_turnRing_50 k8 M (x0) (x1) (x2) (x3) (x4) (x5) else f_X2_turnRing_53 k8 M (x0) (x1) (x2) (x3) (x4) (x5)
def f_X2_turnRing_8  : Nat → Mem → Nat → Nat → Int32 → Int32 → Int32 → Int32 → Option (Mem)
  | 0 => fun _ _ _ _ _ _ _ => none
  | n + 1 => fun y0 y1 y2 y3 y4 y5 y6 => s_X2_turnRing_8  (f_X2_turnRing_8  n) y0 y1 y2 y3 y4 y5 y6
def f_X2_turnRing (M : Mem) (a0 : Nat) (a1 : Nat) (a2 : Int32) : Option (Mem) :=
  f_X2_turnRing_8 FU M (a0) (a1) (a2) (0) (0) (0)
theorem t_X2_turnRing_53 {X : Cx} {res : Mem} {k8 : Mem → Nat → Nat → Int32 → Int32 → Int32 → Int32 → Option (Mem)} (hX : OkX X cX2_turnRing RX2 0 0) (hn : Fit X shC nC) (hR : RetV X shC nC res) (hk8 : ∀ M x0 x1 x2 x3 x4 x5, k8 M x0 x1 x2 x3 x4 x5 = some res → GoN X shC nC 0 0 M 8 [some (.ref (X.B + x0)), some (.ref (X.B + x1)), some (.int (x2)), some (.int (x3)), some (.int (x4)), some (.int (x5))] []) (M : Mem) (x0 : Nat) (x1 : Nat) (x2 : Int32) (x3 : Int32) (x4 : Int32) (x5 : Int32) (hf : f_X2_turnRing_53 k8 M x0 x1 x2 x3 x4 x5 = some res) : GoN X shC nC 0 0 M 53 [some (.ref (X.B + x0)), some (.ref (X.B + x1)), some (.int (x2)), some (.int (x3)), some (.int (x4)), some (.int (x5))] [] := by
  refine r_aload_n (i := 1) hX e_X2_turnRing_53 rfl rfl ?_
  refine r_iload hX e_X2_turnRing_54 rfl ?_
  refine r_iload_n (i := 3) hX e_X2_turnRing_56 rfl rfl ?_
  obtain ⟨g1, hf⟩ := gd_s hf
  obtain ⟨M2, hM2, hf⟩ := nx_s hf
  refine r_iast hX hn hM2 e_X2_turnRing_57 g1 ?_
  refine r_iinc (v := x5 + 1) hX e_X2_turnRing_58 rfl (ii_s ic_1) (Nat.le_of_ble_eq_true rfl) rfl ?_
  refine r_goto hX e_X2_turnRing_61 ?_
  exact GoN.weak (hk8 M2 (x0) (x1) (x2) (x3) (x4) ((x5 + 1)) hf) rfl (sb_s (sb_s (sb_s (sb_s (sb_s (sb_s (sb_z _)))))))
theorem t_X2_turnRing_50 {X : Cx} {res : Mem} {k8 : Mem → Nat → Nat → Int32 → Int32 → Int32 → Int32 → Option (Mem)} (hX : OkX X cX2_turnRing RX2 0 0) (hn : Fit X shC nC) (hR : RetV X shC nC res) (hk8 : ∀ M x0 x1 x2 x3 x4 x5, k8 M x0 x1 x2 x3 x4 x5 = some res → GoN X shC nC 0 0 M 8 [some (.ref (X.B + x0)), some (.ref (X.B + x1)), some (.int (x2)), some (.int (x3)), some (.int (x4)), some (.int (x5))] []) (M : Mem) (x0 : Nat) (x1 : Nat) (x2 : Int32) (x3 : Int32) (x4 : Int32) (x5 : Int32) (hf : f_X2_turnRing_50 k8 M x0 x1 x2 x3 x4 x5 = some res) : GoN X shC nC 0 0 M 50 [some (.ref (X.B + x0)), some (.ref (X.B + x1)), some (.int (x2)), some (.int (x3)), some (.int (x4)), some (.int (x5))] [] := by
  refine r_iinc (v := x4 + 1) hX e_X2_turnRing_50 rfl (ii_s ic_1) (Nat.le_of_ble_eq_true rfl) rfl ?_
  exact GoN.weak (t_X2_turnRing_53 hX hn hR hk8 M (x0) (x1) (x2) (x3) ((x4 + 1)) (x5) hf) rfl (sb_s (sb_s (sb_s (sb_s (sb_s (sb_s (sb_z _)))))))
theorem t_s_X2_turnRing_8 {X : Cx} {res : Mem} {k8 : Mem → Nat → Nat → Int32 → Int32 → Int32 → Int32 → Option (Mem)} (hX : OkX X cX2_turnRing RX2 0 0) (hn : Fit X shC nC) (hR : RetV X shC nC res) (hk8 : ∀ M x0 x1 x2 x3 x4 x5, k8 M x0 x1 x2 x3 x4 x5 = some res → GoN X shC nC 0 0 M 8 [some (.ref (X.B + x0)), some (.ref (X.B + x1)), some (.int (x2)), some (.int (x3)), some (.int (x4)), some (.int (x5))] []) (M : Mem) (x0 : Nat) (x1 : Nat) (x2 : Int32) (x3 : Int32) (x4 : Int32) (x5 : Int32) (hf : s_X2_turnRing_8 k8 M x0 x1 x2 x3 x4 x5 = some res) : GoN X shC nC 0 0 M 8 [some (.ref (X.B + x0)), some (.ref (X.B + x1)), some (.int (x2)), some (.int (x3)), some (.int (x4)), some (.int (x5))] [] := by
  refine r_iload hX e_X2_turnRing_8 rfl ?_
  refine r_iload_n (i := 2) hX e_X2_turnRing_10 rfl rfl ?_
  refine r_icmp_ge hX e_X2_turnRing_11 (fun hc => ?_) (fun hc => ?_)
  · have hf := ite_t hf hc
    exact r_ret hX hR e_X2_turnRing_64 hf
  · have hf := ite_f hf hc
    refine r_aload_n (i := 0) hX e_X2_turnRing_14 rfl rfl ?_
    obtain ⟨g1, hf⟩ := gd_s hf
    refine r_getL hX hn e_X2_turnRing_15 fl_2_43 rfl g1 ?_
    refine r_iload hX e_X2_turnRing_18 rfl ?_
    refine r_lshr hX e_X2_turnRing_20 ?_
    obtain ⟨v2, hv2, hf⟩ := nx_s hf
    refine top_l hv2 ?_
    refine r_lconst hX e_X2_turnRing_21 lc_1 ?_
    refine r_land hX e_X2_turnRing_22 ?_
    refine r_lconst hX e_X2_turnRing_23 lc_0 ?_
    refine r_lcmp hX e_X2_turnRing_24 ?_
    refine r_if_ne hX e_X2_turnRing_25 (fun hc => ?_) (fun hc => ?_)
    · have hf := ite_f hf hc
      exact GoN.weak (t_X2_turnRing_53 hX hn hR hk8 M (x0) (x1) (x2) (x3) (x4) (x5) hf) rfl (sb_s (sb_s (sb_s (sb_s (sb_s (sb_s (sb_z _)))))))
    · have hf := ite_t hf hc
      refine r_aload_n (i := 0) hX e_X2_turnRing_28 rfl rfl ?_
      refine r_getI hX hn e_X2_turnRing_29 fl_2_49 rfl g1 ?_
      refine r_if_le hX e_X2_turnRing_32 (fun hc => ?_) (fun hc => ?_)
      · have hf := ite_t hf hc
        exact GoN.weak (t_X2_turnRing_50 hX hn hR hk8 M (x0) (x1) (x2) (x3) (x4) (x5) hf) rfl (sb_s (sb_s (sb_s (sb_s (sb_s (sb_s (sb_z _)))))))
      · have hf := ite_f hf hc
        refine r_iload hX e_X2_turnRing_35 rfl ?_
        refine r_aload_n (i := 0) hX e_X2_turnRing_37 rfl rfl ?_
        refine r_getI hX hn e_X2_turnRing_38 fl_2_49 rfl g1 ?_
        refine r_icmp_ne hX e_X2_turnRing_41 (fun hc => ?_) (fun hc => ?_)
        · have hf := ite_f hf hc
          exact GoN.weak (t_X2_turnRing_50 hX hn hR hk8 M (x0) (x1) (x2) (x3) (x4) (x5) hf) rfl (sb_s (sb_s (sb_s (sb_s (sb_s (sb_s (sb_z _)))))))
        · have hf := ite_t hf hc
          refine r_iinc (v := x3 + 1) hX e_X2_turnRing_44 rfl (ii_s ic_1) (Nat.le_of_ble_eq_true rfl) rfl ?_
          refine r_iconst hX e_X2_turnRing_47 ic_0 ?_
          refine r_istore hX e_X2_turnRing_48 (Nat.le_of_ble_eq_true rfl) rfl ?_
          exact GoN.weak (t_X2_turnRing_50 hX hn hR hk8 M (x0) (x1) (x2) ((x3 + 1)) (0) (x5) hf) rfl (sb_s (sb_s (sb_s (sb_s (sb_s (sb_s (sb_z _)))))))
theorem t_X2_turnRing_8 {X : Cx} {res : Mem}  (hX : OkX X cX2_turnRing RX2 0 0) (hn : Fit X shC nC) (hR : RetV X shC nC res)  : ∀ (n : Nat) (M : Mem) (x0 : Nat) (x1 : Nat) (x2 : Int32) (x3 : Int32) (x4 : Int32) (x5 : Int32),  f_X2_turnRing_8  n M x0 x1 x2 x3 x4 x5 = some res → GoN X shC nC 0 0 M 8 [some (.ref (X.B + x0)), some (.ref (X.B + x1)), some (.int (x2)), some (.int (x3)), some (.int (x4)), some (.int (x5))] [] := by
  intro n
  induction n with
  | zero => intro M x0 x1 x2 x3 x4 x5 hf; cases hf
  | succ n ih => intro M x0 x1 x2 x3 x4 x5 hf; exact t_s_X2_turnRing_8 hX hn hR  ih M x0 x1 x2 x3 x4 x5 hf
theorem t_X2_turnRing {l : Launch} {M : Mem} {a0 a1 : Nat} {a2 : Int32} {res : Mem} (hf : f_X2_turnRing M a0 a1 a2 = some res) : Cv l yX2_turnRing cX2_turnRing 6 none 0 0 shC nC (fun K B => [.ref (B + a0), .ref (B + a1), .int a2]) M res := by
  refine met_v (own := RX2) (lo := fun K B => [some (.ref (B + a0)), some (.ref (B + a1)), some (.int a2), none, none, none]) (by decide +kernel) rfl shC_ok (fun _ _ => rfl) (fun _ _ => rfl) (fun _ _ => Nat.le_of_ble_eq_true rfl) (fun X hX hn hlx hR => ?_)
  refine r_iconst hX e_X2_turnRing_0 ic_0 ?_
  refine r_istore_n (i := 3) hX e_X2_turnRing_1 rfl (Nat.le_of_ble_eq_true rfl) rfl ?_
  refine r_iconst hX e_X2_turnRing_2 ic_0 ?_
  refine r_istore hX e_X2_turnRing_3 (Nat.le_of_ble_eq_true rfl) rfl ?_
  refine r_iconst hX e_X2_turnRing_5 ic_0 ?_
  refine r_istore hX e_X2_turnRing_6 (Nat.le_of_ble_eq_true rfl) rfl ?_
  exact GoN.weak (t_X2_turnRing_8 hX hn hR FU M (a0) (a1) (a2) (0) (0) (0) hf) rfl (sb_s (sb_s (sb_s (sb_s (sb_s (sb_s (sb_z _)))))))
def f_X20_floorMod (M : Mem) (a0 : Int32) (a1 : Int32) : Option (Int32) :=
  gd (!(a1 == 0)) <| if 0 ≤ (a0 ^^^ a1) then some (a0 - a0 / a1 * a1) else if (a0 - a0 / a1 * a1) = 0 then some (a0 - a0 / a1 * a1) else some ((a0 - a0 / a1 * a1) + a1)
theorem t_X20_floorMod {l : Launch} {M : Mem} {a0 a1 : Int32} {res : Int32} (hf : f_X20_floorMod M a0 a1 = some res) : Ci l yX20_floorMod cX20_floorMod 3 (some .int) 0 0 shC nC (fun K B => [.int a0, .int a1]) M (M, res) := by
  refine met_i (own := RX20) (lo := fun K B => [some (.int a0), some (.int a1), none]) (by decide +kernel) rfl shC_ok (fun _ _ => rfl) (fun _ _ => rfl) (fun _ _ => Nat.le_of_ble_eq_true rfl) (fun X hX hn hlx hR => ?_)
  refine r_iload_n (i := 0) hX e_X20_floorMod_0 rfl rfl ?_
  refine r_iload_n (i := 1) hX e_X20_floorMod_1 rfl rfl ?_
  obtain ⟨g1, hf⟩ := gd_s hf
  refine r_irem hX e_X20_floorMod_2 (by simpa using g1) ?_
  refine r_istore_n (i := 2) hX e_X20_floorMod_3 rfl (Nat.le_of_ble_eq_true rfl) rfl ?_
  refine r_iload_n (i := 0) hX e_X20_floorMod_4 rfl rfl ?_
  refine r_iload_n (i := 1) hX e_X20_floorMod_5 rfl rfl ?_
  refine r_ixor hX e_X20_floorMod_6 ?_
  refine r_if_ge hX e_X20_floorMod_7 (fun hc => ?_) (fun hc => ?_)
  · have hf := ite_t hf hc
    refine r_iload_n (i := 2) hX e_X20_floorMod_18 rfl rfl ?_
    exact r_iret hX hR e_X20_floorMod_19 (ro_s hf)
  · have hf := ite_f hf hc
    refine r_iload_n (i := 2) hX e_X20_floorMod_10 rfl rfl ?_
    refine r_if_eq hX e_X20_floorMod_11 (fun hc => ?_) (fun hc => ?_)
    · have hf := ite_t hf hc
      refine r_iload_n (i := 2) hX e_X20_floorMod_18 rfl rfl ?_
      exact r_iret hX hR e_X20_floorMod_19 (ro_s hf)
    · have hf := ite_f hf hc
      refine r_iload_n (i := 2) hX e_X20_floorMod_14 rfl rfl ?_
      refine r_iload_n (i := 1) hX e_X20_floorMod_15 rfl rfl ?_
      refine r_iadd hX e_X20_floorMod_16 ?_
      exact r_iret hX hR e_X20_floorMod_17 (ro_s hf)
def f_X2_carry_74 (k29 : Mem → Nat → Nat → Int32 → Nat → Nat → Int32 → Option (Mem)) (M : Mem) (x0 : Nat) (x1 : Nat) (x2 : Int32) (x3 : Nat) (x4 : Nat) (x5 : Int32) (s0 : Int32) : Option (Mem) :=
  gd (oB shC x0 2) <| bd (gR M x0 1) fun r2 => gd (aB shC r2 9 x2) <| bd (gR M r2 (x2 : Int32).toNatClampNeg) fun r4 => gd (oB shC x3 9) <| gd (oB shC x1 4) <| bd (f_X20_floorMod M ((gI M x3 1) + s0) (gI M x1 0)) fun v7 => gd (aB shC r4 0 x5) <| nx (sI M r4 (x5 : Int32).toNatClampNeg v7) fun M9 => k29 M9 (x0) (x1) (x2) (x3) (x4) ((x5 + 1))
def s_X2_carry_29 (k29 : Mem → Nat → Nat → Int32 → Nat → Nat → Int32 → Option (Mem)) (M : Mem) (x0 : Nat) (x1 : Nat) (x2 : Int32) (x3 : Nat) (x4 : Nat) (x5 : Int32) : Option (Mem) :=
  gd (oB shC x1 4) <| if (gI M x1 1) ≤ x5 then some M else gd (oB shC x4 7) <| if (gI M x4 1) = 0 then gd (oB shC x0 2) <| bd (gR M x0 0) fun r4 => gd (oB shC x3 9) <| gd (aB shC r4 9 (gI M x3 0)) <| bd (gR M r4 ((gI M x3 0) : Int32).toNatClampNeg) fun r7 => gd (aB shC r7 0 x5) <| f_X2_carry_74 k29 M (x0) (x1) (x2) (x3) (x4) (x5) ((-(gI M r7 (x5 : Int32).toNatClampNeg))) else gd (oB shC x0 2) <| bd (gR M x0 0) fun r10 => gd (oB shC x3 9) <| gd (aB shC r10 9 (gI M x3 0)) <| bd (gR M r10 ((gI M x3 0) : Int32).toNatClampNeg) fun r13 => gd (aB shC r13 0 x5) <| f_X2_carry_74 k29 M (x0) (x1) (x2) (x3) (x4) (x5) ((gI M r13 (x5 : Int32).toNatClampNeg))
def f_X2_carry_29  : Nat → Mem → Nat → Nat → Int32 → Nat → Nat → Int32 → Option (Mem)
  | 0 => fun _ _ _ _ _ _ _ => none
  | n + 1 => fun y0 y1 y2 y3 y4 y5 y6 => s_X2_carry_29  (f_X2_carry_29  n) y0 y1 y2 y3 y4 y5 y6
def f_X2_carry (M : Mem) (a0 : Nat) (a1 : Nat) (a2 : Int32) : Option (Mem) :=
  gd (oB shC a1 4) <| bd (gR M a1 7) fun r2 => gd (aB shC r2 5 a2) <| bd (gR M r2 (a2 : Int32).toNatClampNeg) fun r4 => bd (gR M a1 6) fun r5 => gd (oB shC r4 9) <| gd (aB shC r5 4 (gI M r4 0)) <| bd (gR M r5 ((gI M r4 0) : Int32).toNatClampNeg) fun r8 => if 0 < (gI M a1 0) then f_X2_carry_29 FU M (a0) (a1) (a2) (r4) (r8) (0) else some M
theorem t_X2_carry_74 {X : Cx} {res : Mem} {k29 : Mem → Nat → Nat → Int32 → Nat → Nat → Int32 → Option (Mem)} (hX : OkX X cX2_carry RX2 1 22) (hn : Fit X shC nC) (hR : RetV X shC nC res) (hk29 : ∀ M x0 x1 x2 x3 x4 x5, k29 M x0 x1 x2 x3 x4 x5 = some res → GoN X shC nC 0 0 M 29 [some (.ref (X.B + x0)), some (.ref (X.B + x1)), some (.int (x2)), some (.ref (X.B + x3)), some (.ref (X.B + x4)), some (.int (x5)), none] []) (M : Mem) (x0 : Nat) (x1 : Nat) (x2 : Int32) (x3 : Nat) (x4 : Nat) (x5 : Int32) (s0 : Int32) (hf : f_X2_carry_74 k29 M x0 x1 x2 x3 x4 x5 s0 = some res) : GoN X shC nC 0 0 M 74 [some (.ref (X.B + x0)), some (.ref (X.B + x1)), some (.int (x2)), some (.ref (X.B + x3)), some (.ref (X.B + x4)), some (.int (x5)), none] [.int (s0)] := by
  refine r_istore hX e_X2_carry_74 (Nat.le_of_ble_eq_true rfl) rfl ?_
  refine r_aload_n (i := 0) hX e_X2_carry_76 rfl rfl ?_
  obtain ⟨g1, hf⟩ := gd_s hf
  obtain ⟨r2, hr2, hf⟩ := bd_s hf
  refine r_getR hX hn e_X2_carry_77 fl_2_16 rfl g1 hr2 ?_
  refine r_iload_n (i := 2) hX e_X2_carry_80 rfl rfl ?_
  obtain ⟨g3, hf⟩ := gd_s hf
  obtain ⟨r4, hr4, hf⟩ := bd_s hf
  refine r_aald hX hn e_X2_carry_81 g3 (Nat.le_of_ble_eq_true rfl) rfl rfl rfl hr4 ?_
  refine r_iload hX e_X2_carry_82 rfl ?_
  refine r_aload_n (i := 3) hX e_X2_carry_84 rfl rfl ?_
  obtain ⟨g5, hf⟩ := gd_s hf
  refine r_getI hX hn e_X2_carry_85 fl_2_68 rfl g5 ?_
  refine r_iload hX e_X2_carry_88 rfl ?_
  refine r_iadd hX e_X2_carry_90 ?_
  refine r_aload_n (i := 1) hX e_X2_carry_91 rfl rfl ?_
  obtain ⟨g6, hf⟩ := gd_s hf
  refine r_getI hX hn e_X2_carry_92 fl_2_61 rfl g6 ?_
  obtain ⟨v7, hv7, hf⟩ := bd_s hf
  refine r_csi (As := fun K B => [.int (((gI M x3 1) + s0)), .int ((gI M x1 0))]) hX hn (t_X20_floorMod hv7) e_X2_carry_95 cw_X20_floorMod cv_X20_floorMod lk_2_71 ⟨Nat.le_of_ble_eq_true rfl, Nat.le_of_ble_eq_true rfl⟩ rfl rfl (Nat.le_of_ble_eq_true rfl) ⟨Nat.zero_le _, Nat.zero_le _⟩ ?_
  obtain ⟨g8, hf⟩ := gd_s hf
  obtain ⟨M9, hM9, hf⟩ := nx_s hf
  refine r_iast hX hn hM9 e_X2_carry_98 g8 ?_
  refine r_iinc (v := x5 + 1) hX e_X2_carry_99 rfl (ii_s ic_1) (Nat.le_of_ble_eq_true rfl) rfl ?_
  refine r_goto hX e_X2_carry_102 ?_
  exact GoN.weak (hk29 M9 (x0) (x1) (x2) (x3) (x4) ((x5 + 1)) hf) rfl (sb_s (sb_s (sb_s (sb_s (sb_s (sb_s (sb_n (sb_z _))))))))
theorem t_s_X2_carry_29 {X : Cx} {res : Mem} {k29 : Mem → Nat → Nat → Int32 → Nat → Nat → Int32 → Option (Mem)} (hX : OkX X cX2_carry RX2 1 22) (hn : Fit X shC nC) (hR : RetV X shC nC res) (hk29 : ∀ M x0 x1 x2 x3 x4 x5, k29 M x0 x1 x2 x3 x4 x5 = some res → GoN X shC nC 0 0 M 29 [some (.ref (X.B + x0)), some (.ref (X.B + x1)), some (.int (x2)), some (.ref (X.B + x3)), some (.ref (X.B + x4)), some (.int (x5)), none] []) (M : Mem) (x0 : Nat) (x1 : Nat) (x2 : Int32) (x3 : Nat) (x4 : Nat) (x5 : Int32) (hf : s_X2_carry_29 k29 M x0 x1 x2 x3 x4 x5 = some res) : GoN X shC nC 0 0 M 29 [some (.ref (X.B + x0)), some (.ref (X.B + x1)), some (.int (x2)), some (.ref (X.B + x3)), some (.ref (X.B + x4)), some (.int (x5)), none] [] := by
  refine r_iload hX e_X2_carry_29 rfl ?_
  refine r_aload_n (i := 1) hX e_X2_carry_31 rfl rfl ?_
  obtain ⟨g1, hf⟩ := gd_s hf
  refine r_getI hX hn e_X2_carry_32 fl_2_29 rfl g1 ?_
  refine r_icmp_ge hX e_X2_carry_35 (fun hc => ?_) (fun hc => ?_)
  · have hf := ite_t hf hc
    exact r_ret hX hR e_X2_carry_105 hf
  · have hf := ite_f hf hc
    refine r_aload hX e_X2_carry_38 rfl ?_
    obtain ⟨g2, hf⟩ := gd_s hf
    refine r_getI hX hn e_X2_carry_40 fl_2_64 rfl g2 ?_
    refine r_if_eq hX e_X2_carry_43 (fun hc => ?_) (fun hc => ?_)
    · have hf := ite_t hf hc
      refine r_aload_n (i := 0) hX e_X2_carry_61 rfl rfl ?_
      obtain ⟨g3, hf⟩ := gd_s hf
      obtain ⟨r4, hr4, hf⟩ := bd_s hf
      refine r_getR hX hn e_X2_carry_62 fl_2_11 rfl g3 hr4 ?_
      refine r_aload_n (i := 3) hX e_X2_carry_65 rfl rfl ?_
      obtain ⟨g5, hf⟩ := gd_s hf
      refine r_getI hX hn e_X2_carry_66 fl_2_56 rfl g5 ?_
      obtain ⟨g6, hf⟩ := gd_s hf
      obtain ⟨r7, hr7, hf⟩ := bd_s hf
      refine r_aald hX hn e_X2_carry_69 g6 (Nat.le_of_ble_eq_true rfl) rfl rfl rfl hr7 ?_
      refine r_iload hX e_X2_carry_70 rfl ?_
      obtain ⟨g8, hf⟩ := gd_s hf
      refine r_iald hX hn e_X2_carry_72 g8 ?_
      refine r_ineg hX e_X2_carry_73 ?_
      exact GoN.weak (t_X2_carry_74 hX hn hR hk29 M (x0) (x1) (x2) (x3) (x4) (x5) ((-(gI M r7 (x5 : Int32).toNatClampNeg))) hf) rfl (sb_s (sb_s (sb_s (sb_s (sb_s (sb_s (sb_n (sb_z _))))))))
    · have hf := ite_f hf hc
      refine r_aload_n (i := 0) hX e_X2_carry_46 rfl rfl ?_
      obtain ⟨g9, hf⟩ := gd_s hf
      obtain ⟨r10, hr10, hf⟩ := bd_s hf
      refine r_getR hX hn e_X2_carry_47 fl_2_11 rfl g9 hr10 ?_
      refine r_aload_n (i := 3) hX e_X2_carry_50 rfl rfl ?_
      obtain ⟨g11, hf⟩ := gd_s hf
      refine r_getI hX hn e_X2_carry_51 fl_2_56 rfl g11 ?_
      obtain ⟨g12, hf⟩ := gd_s hf
      obtain ⟨r13, hr13, hf⟩ := bd_s hf
      refine r_aald hX hn e_X2_carry_54 g12 (Nat.le_of_ble_eq_true rfl) rfl rfl rfl hr13 ?_
      refine r_iload hX e_X2_carry_55 rfl ?_
      obtain ⟨g14, hf⟩ := gd_s hf
      refine r_iald hX hn e_X2_carry_57 g14 ?_
      refine r_goto hX e_X2_carry_58 ?_
      exact GoN.weak (t_X2_carry_74 hX hn hR hk29 M (x0) (x1) (x2) (x3) (x4) (x5) ((gI M r13 (x5 : Int32).toNatClampNeg)) hf) rfl (sb_s (sb_s (sb_s (sb_s (sb_s (sb_s (sb_n (sb_z _))))))))
theorem t_X2_carry_29 {X : Cx} {res : Mem}  (hX : OkX X cX2_carry RX2 1 22) (hn : Fit X shC nC) (hR : RetV X shC nC res)  : ∀ (n : Nat) (M : Mem) (x0 : Nat) (x1 : Nat) (x2 : Int32) (x3 : Nat) (x4 : Nat) (x5 : Int32),  f_X2_carry_29  n M x0 x1 x2 x3 x4 x5 = some res → GoN X shC nC 0 0 M 29 [some (.ref (X.B + x0)), some (.ref (X.B + x1)), some (.int (x2)), some (.ref (X.B + x3)), some (.ref (X.B + x4)), some (.int (x5)), none] [] := by
  intro n
  induction n with
  | zero => intro M x0 x1 x2 x3 x4 x5 hf; cases hf
  | succ n ih => intro M x0 x1 x2 x3 x4 x5 hf; exact t_s_X2_carry_29 hX hn hR  ih M x0 x1 x2 x3 x4 x5 hf
theorem t_X2_carry {l : Launch} {M : Mem} {a0 a1 : Nat} {a2 : Int32} {res : Mem} (hf : f_X2_carry M a0 a1 a2 = some res) : Cv l yX2_carry cX2_carry 7 none 1 22 shC nC (fun K B => [.ref (B + a0), .ref (B + a1), .int a2]) M res := by
  refine met_v (own := RX2) (lo := fun K B => [some (.ref (B + a0)), some (.ref (B + a1)), some (.int a2), none, none, none, none]) (by decide +kernel) rfl shC_ok (fun _ _ => rfl) (fun _ _ => rfl) (fun _ _ => Nat.le_of_ble_eq_true rfl) (fun X hX hn hlx hR => ?_)
  refine r_aload_n (i := 1) hX e_X2_carry_0 rfl rfl ?_
  obtain ⟨g1, hf⟩ := gd_s hf
  obtain ⟨r2, hr2, hf⟩ := bd_s hf
  refine r_getR hX hn e_X2_carry_1 fl_2_52 rfl g1 hr2 ?_
  refine r_iload_n (i := 2) hX e_X2_carry_4 rfl rfl ?_
  obtain ⟨g3, hf⟩ := gd_s hf
  obtain ⟨r4, hr4, hf⟩ := bd_s hf
  refine r_aald hX hn e_X2_carry_5 g3 (Nat.le_of_ble_eq_true rfl) rfl rfl rfl hr4 ?_
  refine r_astore_n (i := 3) hX e_X2_carry_6 rfl (Nat.le_of_ble_eq_true rfl) rfl ?_
  refine r_aload_n (i := 1) hX e_X2_carry_7 rfl rfl ?_
  obtain ⟨r5, hr5, hf⟩ := bd_s hf
  refine r_getR hX hn e_X2_carry_8 fl_2_25 rfl g1 hr5 ?_
  refine r_aload_n (i := 3) hX e_X2_carry_11 rfl rfl ?_
  obtain ⟨g6, hf⟩ := gd_s hf
  refine r_getI hX hn e_X2_carry_12 fl_2_56 rfl g6 ?_
  obtain ⟨g7, hf⟩ := gd_s hf
  obtain ⟨r8, hr8, hf⟩ := bd_s hf
  refine r_aald hX hn e_X2_carry_15 g7 (Nat.le_of_ble_eq_true rfl) rfl rfl rfl hr8 ?_
  refine r_astore hX e_X2_carry_16 (Nat.le_of_ble_eq_true rfl) rfl ?_
  refine r_aload_n (i := 1) hX e_X2_carry_18 rfl rfl ?_
  refine r_getI hX hn e_X2_carry_19 fl_2_61 rfl g1 ?_
  refine r_if_gt hX e_X2_carry_22 (fun hc => ?_) (fun hc => ?_)
  · have hf := ite_t hf hc
    refine r_iconst hX e_X2_carry_26 ic_0 ?_
    refine r_istore hX e_X2_carry_27 (Nat.le_of_ble_eq_true rfl) rfl ?_
    exact GoN.weak (t_X2_carry_29 hX hn hR FU M (a0) (a1) (a2) (r4) (r8) (0) hf) rfl (sb_s (sb_s (sb_s (sb_s (sb_s (sb_s (sb_n (sb_z _))))))))
  · have hf := ite_f hf hc
    exact r_ret hX hR e_X2_carry_25 hf
def s_X2_follow_37 (k37 : Mem → Nat → Nat → Int32 → Option (Mem)) (M : Mem) (x0 : Nat) (x1 : Nat) (x2 : Int32) : Option (Mem) :=
  gd (oB shC x1 4) <| if (gI M x1 4) ≤ x2 then some M else gd (oB shC x0 2) <| bd (f_X2_carry M x0 x1 x2) fun u3 => k37 u3 (x0) (x1) ((x2 + 1))
def f_X2_follow_37  : Nat → Mem → Nat → Nat → Int32 → Option (Mem)
  | 0 => fun _ _ _ _ => none
  | n + 1 => fun y0 y1 y2 y3 => s_X2_follow_37  (f_X2_follow_37  n) y0 y1 y2 y3
def s_X2_follow_2 (k2 : Mem → Nat → Nat → Int32 → Option (Mem)) (M : Mem) (x0 : Nat) (x1 : Nat) (x2 : Int32) : Option (Mem) :=
  gd (oB shC x1 4) <| if (gI M x1 3) ≤ x2 then f_X2_follow_37 FU M (x0) (x1) (0) else bd (gR M x1 6) fun r2 => gd (aB shC r2 4 x2) <| bd (gR M r2 (x2 : Int32).toNatClampNeg) fun r4 => gd (oB shC x0 2) <| bd (gR M x0 0) fun r6 => gd (aB shC r6 9 x2) <| bd (gR M r6 (x2 : Int32).toNatClampNeg) fun r8 => bd (f_X2_turnRing M r4 r8 (gI M x1 1)) fun u9 => k2 u9 (x0) (x1) ((x2 + 1))
def f_X2_follow_2  : Nat → Mem → Nat → Nat → Int32 → Option (Mem)
  | 0 => fun _ _ _ _ => none
  | n + 1 => fun y0 y1 y2 y3 => s_X2_follow_2  (f_X2_follow_2  n) y0 y1 y2 y3
def f_X2_follow (M : Mem) (a0 : Nat) (a1 : Nat) : Option (Mem) :=
  f_X2_follow_2 FU M (a0) (a1) (0)
theorem t_s_X2_follow_37 {X : Cx} {res : Mem} {k37 : Mem → Nat → Nat → Int32 → Option (Mem)} (hX : OkX X cX2_follow RX2 2 48) (hn : Fit X shC nC) (hR : RetV X shC nC res) (hk37 : ∀ M x0 x1 x2, k37 M x0 x1 x2 = some res → GoN X shC nC 0 0 M 37 [some (.ref (X.B + x0)), some (.ref (X.B + x1)), some (.int (x2))] []) (M : Mem) (x0 : Nat) (x1 : Nat) (x2 : Int32) (hf : s_X2_follow_37 k37 M x0 x1 x2 = some res) : GoN X shC nC 0 0 M 37 [some (.ref (X.B + x0)), some (.ref (X.B + x1)), some (.int (x2))] [] := by
  refine r_iload_n (i := 2) hX e_X2_follow_37 rfl rfl ?_
  refine r_aload_n (i := 1) hX e_X2_follow_38 rfl rfl ?_
  obtain ⟨g1, hf⟩ := gd_s hf
  refine r_getI hX hn e_X2_follow_39 fl_2_36 rfl g1 ?_
  refine r_icmp_ge hX e_X2_follow_42 (fun hc => ?_) (fun hc => ?_)
  · have hf := ite_t hf hc
    exact r_ret hX hR e_X2_follow_57 hf
  · have hf := ite_f hf hc
    refine r_aload_n (i := 0) hX e_X2_follow_45 rfl rfl ?_
    refine r_aload_n (i := 1) hX e_X2_follow_46 rfl rfl ?_
    refine r_iload_n (i := 2) hX e_X2_follow_47 rfl rfl ?_
    obtain ⟨g2, hf⟩ := gd_s hf
    obtain ⟨u3, hu3, hf⟩ := bd_s hf
    refine r_cvv (As := fun K B => [.ref (B + x1), .int (x2)]) hX hn (t_X2_carry hu3) e_X2_follow_48 cw_X2_carry cv_X2_carry lk_2_39 ⟨Nat.le_of_ble_eq_true rfl, Nat.le_of_ble_eq_true rfl⟩ (ci := 2) rfl rfl (Nat.le_of_ble_eq_true rfl) g2 rfl rfl (Nat.le_of_ble_eq_true rfl) ⟨Nat.zero_le _, Nat.zero_le _⟩ ?_
    refine r_iinc (v := x2 + 1) hX e_X2_follow_51 rfl (ii_s ic_1) (Nat.le_of_ble_eq_true rfl) rfl ?_
    refine r_goto hX e_X2_follow_54 ?_
    exact GoN.weak (hk37 u3 (x0) (x1) ((x2 + 1)) hf) rfl (sb_s (sb_s (sb_s (sb_z _))))
theorem t_X2_follow_37 {X : Cx} {res : Mem}  (hX : OkX X cX2_follow RX2 2 48) (hn : Fit X shC nC) (hR : RetV X shC nC res)  : ∀ (n : Nat) (M : Mem) (x0 : Nat) (x1 : Nat) (x2 : Int32),  f_X2_follow_37  n M x0 x1 x2 = some res → GoN X shC nC 0 0 M 37 [some (.ref (X.B + x0)), some (.ref (X.B + x1)), some (.int (x2))] [] := by
  intro n
  induction n with
  | zero => intro M x0 x1 x2 hf; cases hf
  | succ n ih => intro M x0 x1 x2 hf; exact t_s_X2_follow_37 hX hn hR  ih M x0 x1 x2 hf
theorem t_s_X2_follow_2 {X : Cx} {res : Mem} {k2 : Mem → Nat → Nat → Int32 → Option (Mem)} (hX : OkX X cX2_follow RX2 2 48) (hn : Fit X shC nC) (hR : RetV X shC nC res) (hk2 : ∀ M x0 x1 x2, k2 M x0 x1 x2 = some res → GoN X shC nC 0 0 M 2 [some (.ref (X.B + x0)), some (.ref (X.B + x1)), some (.int (x2))] []) (M : Mem) (x0 : Nat) (x1 : Nat) (x2 : Int32) (hf : s_X2_follow_2 k2 M x0 x1 x2 = some res) : GoN X shC nC 0 0 M 2 [some (.ref (X.B + x0)), some (.ref (X.B + x1)), some (.int (x2))] [] := by
  refine r_iload_n (i := 2) hX e_X2_follow_2 rfl rfl ?_
  refine r_aload_n (i := 1) hX e_X2_follow_3 rfl rfl ?_
  obtain ⟨g1, hf⟩ := gd_s hf
  refine r_getI hX hn e_X2_follow_4 fl_2_19 rfl g1 ?_
  refine r_icmp_ge hX e_X2_follow_7 (fun hc => ?_) (fun hc => ?_)
  · have hf := ite_t hf hc
    refine r_iconst hX e_X2_follow_35 ic_0 ?_
    refine r_istore_n (i := 2) hX e_X2_follow_36 rfl (Nat.le_of_ble_eq_true rfl) rfl ?_
    exact GoN.weak (t_X2_follow_37 hX hn hR FU M (x0) (x1) (0) hf) rfl (sb_s (sb_s (sb_s (sb_z _))))
  · have hf := ite_f hf hc
    refine r_aload_n (i := 1) hX e_X2_follow_10 rfl rfl ?_
    obtain ⟨r2, hr2, hf⟩ := bd_s hf
    refine r_getR hX hn e_X2_follow_11 fl_2_25 rfl g1 hr2 ?_
    refine r_iload_n (i := 2) hX e_X2_follow_14 rfl rfl ?_
    obtain ⟨g3, hf⟩ := gd_s hf
    obtain ⟨r4, hr4, hf⟩ := bd_s hf
    refine r_aald hX hn e_X2_follow_15 g3 (Nat.le_of_ble_eq_true rfl) rfl rfl rfl hr4 ?_
    refine r_aload_n (i := 0) hX e_X2_follow_16 rfl rfl ?_
    obtain ⟨g5, hf⟩ := gd_s hf
    obtain ⟨r6, hr6, hf⟩ := bd_s hf
    refine r_getR hX hn e_X2_follow_17 fl_2_11 rfl g5 hr6 ?_
    refine r_iload_n (i := 2) hX e_X2_follow_20 rfl rfl ?_
    obtain ⟨g7, hf⟩ := gd_s hf
    obtain ⟨r8, hr8, hf⟩ := bd_s hf
    refine r_aald hX hn e_X2_follow_21 g7 (Nat.le_of_ble_eq_true rfl) rfl rfl rfl hr8 ?_
    refine r_aload_n (i := 1) hX e_X2_follow_22 rfl rfl ?_
    refine r_getI hX hn e_X2_follow_23 fl_2_29 rfl g1 ?_
    obtain ⟨u9, hu9, hf⟩ := bd_s hf
    refine r_csv (As := fun K B => [.ref (B + r4), .ref (B + r8), .int ((gI M x1 1))]) hX hn (t_X2_turnRing hu9) e_X2_follow_26 cw_X2_turnRing cv_X2_turnRing lk_2_32 ⟨Nat.le_of_ble_eq_true rfl, Nat.le_of_ble_eq_true rfl⟩ rfl rfl (Nat.le_of_ble_eq_true rfl) ⟨Nat.zero_le _, Nat.zero_le _⟩ ?_
    refine r_iinc (v := x2 + 1) hX e_X2_follow_29 rfl (ii_s ic_1) (Nat.le_of_ble_eq_true rfl) rfl ?_
    refine r_goto hX e_X2_follow_32 ?_
    exact GoN.weak (hk2 u9 (x0) (x1) ((x2 + 1)) hf) rfl (sb_s (sb_s (sb_s (sb_z _))))
theorem t_X2_follow_2 {X : Cx} {res : Mem}  (hX : OkX X cX2_follow RX2 2 48) (hn : Fit X shC nC) (hR : RetV X shC nC res)  : ∀ (n : Nat) (M : Mem) (x0 : Nat) (x1 : Nat) (x2 : Int32),  f_X2_follow_2  n M x0 x1 x2 = some res → GoN X shC nC 0 0 M 2 [some (.ref (X.B + x0)), some (.ref (X.B + x1)), some (.int (x2))] [] := by
  intro n
  induction n with
  | zero => intro M x0 x1 x2 hf; cases hf
  | succ n ih => intro M x0 x1 x2 hf; exact t_s_X2_follow_2 hX hn hR  ih M x0 x1 x2 hf
theorem t_X2_follow {l : Launch} {M : Mem} {a0 a1 : Nat} {res : Mem} (hf : f_X2_follow M a0 a1 = some res) : Cv l yX2_follow cX2_follow 3 none 2 48 shC nC (fun K B => [.ref (B + a0), .ref (B + a1)]) M res := by
  refine met_v (own := RX2) (lo := fun K B => [some (.ref (B + a0)), some (.ref (B + a1)), none]) (by decide +kernel) rfl shC_ok (fun _ _ => rfl) (fun _ _ => rfl) (fun _ _ => Nat.le_of_ble_eq_true rfl) (fun X hX hn hlx hR => ?_)
  refine r_iconst hX e_X2_follow_0 ic_0 ?_
  refine r_istore_n (i := 2) hX e_X2_follow_1 rfl (Nat.le_of_ble_eq_true rfl) rfl ?_
  exact GoN.weak (t_X2_follow_2 hX hn hR FU M (a0) (a1) (0) hf) rfl (sb_s (sb_s (sb_s (sb_z _))))
def s_X3_begin_62 (k62 : Mem → Nat → Int32 → Option (Mem)) (M : Mem) (x0 : Nat) (x1 : Int32) : Option (Mem) :=
  gd (oB shC x0 3) <| bd (gR M x0 10) fun r2 => gd (oB shC r2 4) <| if (gI M r2 5) ≤ x1 then some M else bd (gR M r2 8) fun r4 => gd (aB shC r4 6 x1) <| bd (gR M r4 (x1 : Int32).toNatClampNeg) fun r6 => bd (gR M x0 15) fun r7 => gd (oB shC r6 1) <| gd (aB shC r7 0 x1) <| nx (sI M r7 (x1 : Int32).toNatClampNeg (gI M r6 1)) fun M10 => bd (gR M10 r6 5) fun r11 => bd (gR M10 x0 16) fun r12 => gd (aB shC r12 9 x1) <| bd (gR M10 r12 (x1 : Int32).toNatClampNeg) fun r14 => gd (cB shC 0 r11 0 r14 0 (gI M10 r6 3)) <| nx (cpI M10 r11 (0 : Int32).toNatClampNeg r14 (0 : Int32).toNatClampNeg ((gI M10 r6 3) : Int32).toNatClampNeg) fun M16 => bd (gR M16 x0 17) fun r17 => gd (aB shC r17 0 x1) <| nx (sI M16 r17 (x1 : Int32).toNatClampNeg (-3)) fun M19 => bd (gR M19 x0 9) fun r20 => if (gI M19 r6 3) = 0 then gd (aB shC r20 0 x1) <| nx (sI M19 r20 (x1 : Int32).toNatClampNeg 0) fun M24 => k62 M24 (x0) ((x1 + 1)) else gd (aB shC r20 0 x1) <| nx (sI M19 r20 (x1 : Int32).toNatClampNeg (-1)) fun M22 => k62 M22 (x0) ((x1 + 1))
def f_X3_begin_62  : Nat → Mem → Nat → Int32 → Option (Mem)
  | 0 => fun _ _ _ => none
  | n + 1 => fun y0 y1 y2 => s_X3_begin_62  (f_X3_begin_62  n) y0 y1 y2
def s_X3_begin_7 (k7 : Mem → Nat → Int32 → Option (Mem)) (M : Mem) (x0 : Nat) (x1 : Int32) : Option (Mem) :=
  gd (oB shC x0 3) <| bd (gR M x0 10) fun r2 => gd (oB shC r2 4) <| if (gI M r2 4) ≤ x1 then f_X3_begin_62 FU M (x0) (0) else bd (gR M x0 11) fun r4 => bd (gR M r2 7) fun r5 => gd (aB shC r5 5 x1) <| bd (gR M r5 (x1 : Int32).toNatClampNeg) fun r7 => gd (oB shC r7 9) <| gd (aB shC r4 0 x1) <| nx (sI M r4 (x1 : Int32).toNatClampNeg (gI M r7 4)) fun M10 => bd (gR M10 x0 12) fun r11 => gd (aB shC r11 0 x1) <| nx (sI M10 r11 (x1 : Int32).toNatClampNeg (gI M10 r7 3)) fun M13 => k7 M13 (x0) ((x1 + 1))
def f_X3_begin_7  : Nat → Mem → Nat → Int32 → Option (Mem)
  | 0 => fun _ _ _ => none
  | n + 1 => fun y0 y1 y2 => s_X3_begin_7  (f_X3_begin_7  n) y0 y1 y2
def f_X3_begin (M : Mem) (a0 : Nat) : Option (Mem) :=
  gd (oB shC a0 3) <| nx (sI M a0 4 0) fun M2 => f_X3_begin_7 FU M2 (a0) (0)
theorem t_s_X3_begin_62 {X : Cx} {res : Mem} {k62 : Mem → Nat → Int32 → Option (Mem)} (hX : OkX X cX3_begin RX3 1 26) (hn : Fit X shC nC) (hR : RetV X shC nC res) (hk62 : ∀ M x0 x1, k62 M x0 x1 = some res → GoN X shC nC 0 0 M 62 [some (.ref (X.B + x0)), some (.int (x1)), none] []) (M : Mem) (x0 : Nat) (x1 : Int32) (hf : s_X3_begin_62 k62 M x0 x1 = some res) : GoN X shC nC 0 0 M 62 [some (.ref (X.B + x0)), some (.int (x1)), none] [] := by
  refine r_iload_n (i := 1) hX e_X3_begin_62 rfl rfl ?_
  refine r_aload_n (i := 0) hX e_X3_begin_63 rfl rfl ?_
  obtain ⟨g1, hf⟩ := gd_s hf
  obtain ⟨r2, hr2, hf⟩ := bd_s hf
  refine r_getR hX hn e_X3_begin_64 fl_3_67 rfl g1 hr2 ?_
  obtain ⟨g3, hf⟩ := gd_s hf
  refine r_getI hX hn e_X3_begin_67 fl_3_115 rfl g3 ?_
  refine r_icmp_ge hX e_X3_begin_70 (fun hc => ?_) (fun hc => ?_)
  · have hf := ite_t hf hc
    exact r_ret hX hR e_X3_begin_144 hf
  · have hf := ite_f hf hc
    refine r_aload_n (i := 0) hX e_X3_begin_73 rfl rfl ?_
    refine r_getR hX hn e_X3_begin_74 fl_3_67 rfl g1 hr2 ?_
    obtain ⟨r4, hr4, hf⟩ := bd_s hf
    refine r_getR hX hn e_X3_begin_77 fl_3_118 rfl g3 hr4 ?_
    refine r_iload_n (i := 1) hX e_X3_begin_80 rfl rfl ?_
    obtain ⟨g5, hf⟩ := gd_s hf
    obtain ⟨r6, hr6, hf⟩ := bd_s hf
    refine r_aald hX hn e_X3_begin_81 g5 (Nat.le_of_ble_eq_true rfl) rfl rfl rfl hr6 ?_
    refine r_astore_n (i := 2) hX e_X3_begin_82 rfl (Nat.le_of_ble_eq_true rfl) rfl ?_
    refine r_aload_n (i := 0) hX e_X3_begin_83 rfl rfl ?_
    obtain ⟨r7, hr7, hf⟩ := bd_s hf
    refine r_getR hX hn e_X3_begin_84 fl_3_58 rfl g1 hr7 ?_
    refine r_iload_n (i := 1) hX e_X3_begin_87 rfl rfl ?_
    refine r_aload_n (i := 2) hX e_X3_begin_88 rfl rfl ?_
    obtain ⟨g8, hf⟩ := gd_s hf
    refine r_getI hX hn e_X3_begin_89 fl_3_122 rfl g8 ?_
    obtain ⟨g9, hf⟩ := gd_s hf
    obtain ⟨M10, hM10, hf⟩ := nx_s hf
    refine r_iast hX hn hM10 e_X3_begin_92 g9 ?_
    refine r_aload_n (i := 2) hX e_X3_begin_93 rfl rfl ?_
    obtain ⟨r11, hr11, hf⟩ := bd_s hf
    refine r_getR hX hn e_X3_begin_94 fl_3_126 rfl g8 hr11 ?_
    refine r_iconst hX e_X3_begin_97 ic_0 ?_
    refine r_aload_n (i := 0) hX e_X3_begin_98 rfl rfl ?_
    obtain ⟨r12, hr12, hf⟩ := bd_s hf
    refine r_getR hX hn e_X3_begin_99 fl_3_61 rfl g1 hr12 ?_
    refine r_iload_n (i := 1) hX e_X3_begin_102 rfl rfl ?_
    obtain ⟨g13, hf⟩ := gd_s hf
    obtain ⟨r14, hr14, hf⟩ := bd_s hf
    refine r_aald hX hn e_X3_begin_103 g13 (Nat.le_of_ble_eq_true rfl) rfl rfl rfl hr14 ?_
    refine r_iconst hX e_X3_begin_104 ic_0 ?_
    refine r_aload_n (i := 2) hX e_X3_begin_105 rfl rfl ?_
    refine r_getI hX hn e_X3_begin_106 fl_3_128 rfl g8 ?_
    obtain ⟨g15, hf⟩ := gd_s hf
    obtain ⟨M16, hM16, hf⟩ := nx_s hf
    refine r_cpI hX hn hM16 e_X3_begin_109 cp_3_131 g15 (Nat.le_of_ble_eq_true rfl) (Nat.le_of_ble_eq_true rfl) ?_
    refine r_aload_n (i := 0) hX e_X3_begin_112 rfl rfl ?_
    obtain ⟨r17, hr17, hf⟩ := bd_s hf
    refine r_getR hX hn e_X3_begin_113 fl_3_64 rfl g1 hr17 ?_
    refine r_iload_n (i := 1) hX e_X3_begin_116 rfl rfl ?_
    refine r_bipush hX e_X3_begin_117 bc_m3 ?_
    obtain ⟨g18, hf⟩ := gd_s hf
    obtain ⟨M19, hM19, hf⟩ := nx_s hf
    refine r_iast hX hn hM19 e_X3_begin_119 g18 ?_
    refine r_aload_n (i := 0) hX e_X3_begin_120 rfl rfl ?_
    obtain ⟨r20, hr20, hf⟩ := bd_s hf
    refine r_getR hX hn e_X3_begin_121 fl_3_42 rfl g1 hr20 ?_
    refine r_iload_n (i := 1) hX e_X3_begin_124 rfl rfl ?_
    refine r_aload_n (i := 2) hX e_X3_begin_125 rfl rfl ?_
    refine r_getI hX hn e_X3_begin_126 fl_3_128 rfl g8 ?_
    refine r_if_ne hX e_X3_begin_129 (fun hc => ?_) (fun hc => ?_)
    · have hf := ite_f hf hc
      refine r_iconst hX e_X3_begin_136 ic_m1 ?_
      obtain ⟨g21, hf⟩ := gd_s hf
      obtain ⟨M22, hM22, hf⟩ := nx_s hf
      refine r_iast hX hn hM22 e_X3_begin_137 g21 ?_
      refine r_iinc (v := x1 + 1) hX e_X3_begin_138 rfl (ii_s ic_1) (Nat.le_of_ble_eq_true rfl) rfl ?_
      refine r_goto hX e_X3_begin_141 ?_
      exact GoN.weak (hk62 M22 (x0) ((x1 + 1)) hf) rfl (sb_s (sb_s (sb_n (sb_z _))))
    · have hf := ite_t hf hc
      refine r_iconst hX e_X3_begin_132 ic_0 ?_
      refine r_goto hX e_X3_begin_133 ?_
      obtain ⟨g23, hf⟩ := gd_s hf
      obtain ⟨M24, hM24, hf⟩ := nx_s hf
      refine r_iast hX hn hM24 e_X3_begin_137 g23 ?_
      refine r_iinc (v := x1 + 1) hX e_X3_begin_138 rfl (ii_s ic_1) (Nat.le_of_ble_eq_true rfl) rfl ?_
      refine r_goto hX e_X3_begin_141 ?_
      exact GoN.weak (hk62 M24 (x0) ((x1 + 1)) hf) rfl (sb_s (sb_s (sb_n (sb_z _))))
theorem t_X3_begin_62 {X : Cx} {res : Mem}  (hX : OkX X cX3_begin RX3 1 26) (hn : Fit X shC nC) (hR : RetV X shC nC res)  : ∀ (n : Nat) (M : Mem) (x0 : Nat) (x1 : Int32),  f_X3_begin_62  n M x0 x1 = some res → GoN X shC nC 0 0 M 62 [some (.ref (X.B + x0)), some (.int (x1)), none] [] := by
  intro n
  induction n with
  | zero => intro M x0 x1 hf; cases hf
  | succ n ih => intro M x0 x1 hf; exact t_s_X3_begin_62 hX hn hR  ih M x0 x1 hf
theorem t_s_X3_begin_7 {X : Cx} {res : Mem} {k7 : Mem → Nat → Int32 → Option (Mem)} (hX : OkX X cX3_begin RX3 1 26) (hn : Fit X shC nC) (hR : RetV X shC nC res) (hk7 : ∀ M x0 x1, k7 M x0 x1 = some res → GoN X shC nC 0 0 M 7 [some (.ref (X.B + x0)), some (.int (x1)), none] []) (M : Mem) (x0 : Nat) (x1 : Int32) (hf : s_X3_begin_7 k7 M x0 x1 = some res) : GoN X shC nC 0 0 M 7 [some (.ref (X.B + x0)), some (.int (x1)), none] [] := by
  refine r_iload_n (i := 1) hX e_X3_begin_7 rfl rfl ?_
  refine r_aload_n (i := 0) hX e_X3_begin_8 rfl rfl ?_
  obtain ⟨g1, hf⟩ := gd_s hf
  obtain ⟨r2, hr2, hf⟩ := bd_s hf
  refine r_getR hX hn e_X3_begin_9 fl_3_67 rfl g1 hr2 ?_
  obtain ⟨g3, hf⟩ := gd_s hf
  refine r_getI hX hn e_X3_begin_12 fl_3_101 rfl g3 ?_
  refine r_icmp_ge hX e_X3_begin_15 (fun hc => ?_) (fun hc => ?_)
  · have hf := ite_t hf hc
    refine r_iconst hX e_X3_begin_60 ic_0 ?_
    refine r_istore_n (i := 1) hX e_X3_begin_61 rfl (Nat.le_of_ble_eq_true rfl) rfl ?_
    exact GoN.weak (t_X3_begin_62 hX hn hR FU M (x0) (0) hf) rfl (sb_s (sb_s (sb_n (sb_z _))))
  · have hf := ite_f hf hc
    refine r_aload_n (i := 0) hX e_X3_begin_18 rfl rfl ?_
    obtain ⟨r4, hr4, hf⟩ := bd_s hf
    refine r_getR hX hn e_X3_begin_19 fl_3_45 rfl g1 hr4 ?_
    refine r_iload_n (i := 1) hX e_X3_begin_22 rfl rfl ?_
    refine r_aload_n (i := 0) hX e_X3_begin_23 rfl rfl ?_
    refine r_getR hX hn e_X3_begin_24 fl_3_67 rfl g1 hr2 ?_
    obtain ⟨r5, hr5, hf⟩ := bd_s hf
    refine r_getR hX hn e_X3_begin_27 fl_3_104 rfl g3 hr5 ?_
    refine r_iload_n (i := 1) hX e_X3_begin_30 rfl rfl ?_
    obtain ⟨g6, hf⟩ := gd_s hf
    obtain ⟨r7, hr7, hf⟩ := bd_s hf
    refine r_aald hX hn e_X3_begin_31 g6 (Nat.le_of_ble_eq_true rfl) rfl rfl rfl hr7 ?_
    obtain ⟨g8, hf⟩ := gd_s hf
    refine r_getI hX hn e_X3_begin_32 fl_3_108 rfl g8 ?_
    obtain ⟨g9, hf⟩ := gd_s hf
    obtain ⟨M10, hM10, hf⟩ := nx_s hf
    refine r_iast hX hn hM10 e_X3_begin_35 g9 ?_
    refine r_aload_n (i := 0) hX e_X3_begin_36 rfl rfl ?_
    obtain ⟨r11, hr11, hf⟩ := bd_s hf
    refine r_getR hX hn e_X3_begin_37 fl_3_48 rfl g1 hr11 ?_
    refine r_iload_n (i := 1) hX e_X3_begin_40 rfl rfl ?_
    refine r_aload_n (i := 0) hX e_X3_begin_41 rfl rfl ?_
    refine r_getR hX hn e_X3_begin_42 fl_3_67 rfl g1 (gR_kI hM10 hr2) ?_
    refine r_getR hX hn e_X3_begin_45 fl_3_104 rfl g3 (gR_kI hM10 hr5) ?_
    refine r_iload_n (i := 1) hX e_X3_begin_48 rfl rfl ?_
    refine r_aald hX hn e_X3_begin_49 g6 (Nat.le_of_ble_eq_true rfl) rfl rfl rfl (gR_kI hM10 hr7) ?_
    refine r_getI hX hn e_X3_begin_50 fl_3_112 rfl g8 ?_
    obtain ⟨g12, hf⟩ := gd_s hf
    obtain ⟨M13, hM13, hf⟩ := nx_s hf
    refine r_iast hX hn hM13 e_X3_begin_53 g12 ?_
    refine r_iinc (v := x1 + 1) hX e_X3_begin_54 rfl (ii_s ic_1) (Nat.le_of_ble_eq_true rfl) rfl ?_
    refine r_goto hX e_X3_begin_57 ?_
    exact GoN.weak (hk7 M13 (x0) ((x1 + 1)) hf) rfl (sb_s (sb_s (sb_n (sb_z _))))
theorem t_X3_begin_7 {X : Cx} {res : Mem}  (hX : OkX X cX3_begin RX3 1 26) (hn : Fit X shC nC) (hR : RetV X shC nC res)  : ∀ (n : Nat) (M : Mem) (x0 : Nat) (x1 : Int32),  f_X3_begin_7  n M x0 x1 = some res → GoN X shC nC 0 0 M 7 [some (.ref (X.B + x0)), some (.int (x1)), none] [] := by
  intro n
  induction n with
  | zero => intro M x0 x1 hf; cases hf
  | succ n ih => intro M x0 x1 hf; exact t_s_X3_begin_7 hX hn hR  ih M x0 x1 hf
theorem t_X3_begin {l : Launch} {M : Mem} {a0 : Nat} {res : Mem} (hf : f_X3_begin M a0 = some res) : Cv l yX3_begin cX3_begin 3 none 1 26 shC nC (fun K B => [.ref (B + a0)]) M res := by
  refine met_v (own := RX3) (lo := fun K B => [some (.ref (B + a0)), none, none]) (by decide +kernel) rfl shC_ok (fun _ _ => rfl) (fun _ _ => rfl) (fun _ _ => Nat.le_of_ble_eq_true rfl) (fun X hX hn hlx hR => ?_)
  refine r_aload_n (i := 0) hX e_X3_begin_0 rfl rfl ?_
  refine r_iconst hX e_X3_begin_1 ic_0 ?_
  obtain ⟨g1, hf⟩ := gd_s hf
  obtain ⟨M2, hM2, hf⟩ := nx_s hf
  refine r_putI hX hn hM2 e_X3_begin_2 fl_3_98 fp_3_4 rfl g1 ?_
  refine r_iconst hX e_X3_begin_5 ic_0 ?_
  refine r_istore_n (i := 1) hX e_X3_begin_6 rfl (Nat.le_of_ble_eq_true rfl) rfl ?_
  exact GoN.weak (t_X3_begin_7 hX hn hR FU M2 (a0) (0) hf) rfl (sb_s (sb_s (sb_n (sb_z _))))
def f_X3_openMinute_52 (k2 : Mem → Nat → Int32 → Int32 → Option (Mem)) (M : Mem) (x0 : Nat) (x1 : Int32) (x2 : Int32) : Option (Mem) :=
  gd (oB shC x0 3) <| bd (gR M x0 1) fun r2 => gd (aB shC r2 9 x2) <| bd (gR M r2 (x2 : Int32).toNatClampNeg) fun r4 => bd (gR M x0 11) fun r5 => gd (aB shC r5 0 x2) <| gd (aB shC r4 0 x1) <| nx (sI M r4 (x1 : Int32).toNatClampNeg (gI M r5 (x2 : Int32).toNatClampNeg)) fun M8 => bd (gR M8 x0 13) fun r9 => gd (aB shC r9 2 x2) <| nx (sI M8 r9 (x2 : Int32).toNatClampNeg (vp_nar .boolean 0)) fun M11 => bd (gR M11 x0 14) fun r12 => gd (aB shC r12 2 x2) <| nx (sI M11 r12 (x2 : Int32).toNatClampNeg (vp_nar .boolean 0)) fun M14 => k2 M14 (x0) (x1) ((x2 + 1))
def s_X3_openMinute_2 (k2 : Mem → Nat → Int32 → Int32 → Option (Mem)) (M : Mem) (x0 : Nat) (x1 : Int32) (x2 : Int32) : Option (Mem) :=
  gd (oB shC x0 3) <| bd (gR M x0 10) fun r2 => gd (oB shC r2 4) <| if (gI M r2 4) ≤ x2 then some M else bd (gR M r2 7) fun r4 => gd (aB shC r4 5 x2) <| bd (gR M r4 (x2 : Int32).toNatClampNeg) fun r6 => gd (oB shC r6 9) <| if (gI M r6 5) = 1 then bd (gR M x0 11) fun r8 => bd (gR M x0 0) fun r9 => gd (oB shC r9 2) <| bd (f_X2_quietPrice M r9 r6 x1) fun v11 => gd (aB shC r8 0 x2) <| nx (sI M r8 (x2 : Int32).toNatClampNeg v11) fun M13 => f_X3_openMinute_52 k2 M13 (x0) (x1) (x2) else f_X3_openMinute_52 k2 M (x0) (x1) (x2)
def f_X3_openMinute_2  : Nat → Mem → Nat → Int32 → Int32 → Option (Mem)
  | 0 => fun _ _ _ _ => none
  | n + 1 => fun y0 y1 y2 y3 => s_X3_openMinute_2  (f_X3_openMinute_2  n) y0 y1 y2 y3
def f_X3_openMinute (M : Mem) (a0 : Nat) (a1 : Int32) : Option (Mem) :=
  f_X3_openMinute_2 FU M (a0) (a1) (0)
theorem t_X3_openMinute_52 {X : Cx} {res : Mem} {k2 : Mem → Nat → Int32 → Int32 → Option (Mem)} (hX : OkX X cX3_openMinute RX3 2 43) (hn : Fit X shC nC) (hR : RetV X shC nC res) (hk2 : ∀ M x0 x1 x2, k2 M x0 x1 x2 = some res → GoN X shC nC 0 0 M 2 [some (.ref (X.B + x0)), some (.int (x1)), some (.int (x2))] []) (M : Mem) (x0 : Nat) (x1 : Int32) (x2 : Int32) (hf : f_X3_openMinute_52 k2 M x0 x1 x2 = some res) : GoN X shC nC 0 0 M 52 [some (.ref (X.B + x0)), some (.int (x1)), some (.int (x2))] [] := by
  refine r_aload_n (i := 0) hX e_X3_openMinute_52 rfl rfl ?_
  obtain ⟨g1, hf⟩ := gd_s hf
  obtain ⟨r2, hr2, hf⟩ := bd_s hf
  refine r_getR hX hn e_X3_openMinute_53 fl_3_20 rfl g1 hr2 ?_
  refine r_iload_n (i := 2) hX e_X3_openMinute_56 rfl rfl ?_
  obtain ⟨g3, hf⟩ := gd_s hf
  obtain ⟨r4, hr4, hf⟩ := bd_s hf
  refine r_aald hX hn e_X3_openMinute_57 g3 (Nat.le_of_ble_eq_true rfl) rfl rfl rfl hr4 ?_
  refine r_iload_n (i := 1) hX e_X3_openMinute_58 rfl rfl ?_
  refine r_aload_n (i := 0) hX e_X3_openMinute_59 rfl rfl ?_
  obtain ⟨r5, hr5, hf⟩ := bd_s hf
  refine r_getR hX hn e_X3_openMinute_60 fl_3_45 rfl g1 hr5 ?_
  refine r_iload_n (i := 2) hX e_X3_openMinute_63 rfl rfl ?_
  obtain ⟨g6, hf⟩ := gd_s hf
  refine r_iald hX hn e_X3_openMinute_64 g6 ?_
  obtain ⟨g7, hf⟩ := gd_s hf
  obtain ⟨M8, hM8, hf⟩ := nx_s hf
  refine r_iast hX hn hM8 e_X3_openMinute_65 g7 ?_
  refine r_aload_n (i := 0) hX e_X3_openMinute_66 rfl rfl ?_
  obtain ⟨r9, hr9, hf⟩ := bd_s hf
  refine r_getR hX hn e_X3_openMinute_67 fl_3_51 rfl g1 hr9 ?_
  refine r_iload_n (i := 2) hX e_X3_openMinute_70 rfl rfl ?_
  refine r_iconst hX e_X3_openMinute_71 ic_0 ?_
  obtain ⟨g10, hf⟩ := gd_s hf
  obtain ⟨M11, hM11, hf⟩ := nx_s hf
  refine r_zast hX hn hM11 e_X3_openMinute_72 g10 ?_
  refine r_aload_n (i := 0) hX e_X3_openMinute_73 rfl rfl ?_
  obtain ⟨r12, hr12, hf⟩ := bd_s hf
  refine r_getR hX hn e_X3_openMinute_74 fl_3_55 rfl g1 hr12 ?_
  refine r_iload_n (i := 2) hX e_X3_openMinute_77 rfl rfl ?_
  refine r_iconst hX e_X3_openMinute_78 ic_0 ?_
  obtain ⟨g13, hf⟩ := gd_s hf
  obtain ⟨M14, hM14, hf⟩ := nx_s hf
  refine r_zast hX hn hM14 e_X3_openMinute_79 g13 ?_
  refine r_iinc (v := x2 + 1) hX e_X3_openMinute_80 rfl (ii_s ic_1) (Nat.le_of_ble_eq_true rfl) rfl ?_
  refine r_goto hX e_X3_openMinute_83 ?_
  exact GoN.weak (hk2 M14 (x0) (x1) ((x2 + 1)) hf) rfl (sb_s (sb_s (sb_s (sb_z _))))
theorem t_s_X3_openMinute_2 {X : Cx} {res : Mem} {k2 : Mem → Nat → Int32 → Int32 → Option (Mem)} (hX : OkX X cX3_openMinute RX3 2 43) (hn : Fit X shC nC) (hR : RetV X shC nC res) (hk2 : ∀ M x0 x1 x2, k2 M x0 x1 x2 = some res → GoN X shC nC 0 0 M 2 [some (.ref (X.B + x0)), some (.int (x1)), some (.int (x2))] []) (M : Mem) (x0 : Nat) (x1 : Int32) (x2 : Int32) (hf : s_X3_openMinute_2 k2 M x0 x1 x2 = some res) : GoN X shC nC 0 0 M 2 [some (.ref (X.B + x0)), some (.int (x1)), some (.int (x2))] [] := by
  refine r_iload_n (i := 2) hX e_X3_openMinute_2 rfl rfl ?_
  refine r_aload_n (i := 0) hX e_X3_openMinute_3 rfl rfl ?_
  obtain ⟨g1, hf⟩ := gd_s hf
  obtain ⟨r2, hr2, hf⟩ := bd_s hf
  refine r_getR hX hn e_X3_openMinute_4 fl_3_67 rfl g1 hr2 ?_
  obtain ⟨g3, hf⟩ := gd_s hf
  refine r_getI hX hn e_X3_openMinute_7 fl_3_101 rfl g3 ?_
  refine r_icmp_ge hX e_X3_openMinute_10 (fun hc => ?_) (fun hc => ?_)
  · have hf := ite_t hf hc
    exact r_ret hX hR e_X3_openMinute_86 hf
  · have hf := ite_f hf hc
    refine r_aload_n (i := 0) hX e_X3_openMinute_13 rfl rfl ?_
    refine r_getR hX hn e_X3_openMinute_14 fl_3_67 rfl g1 hr2 ?_
    obtain ⟨r4, hr4, hf⟩ := bd_s hf
    refine r_getR hX hn e_X3_openMinute_17 fl_3_104 rfl g3 hr4 ?_
    refine r_iload_n (i := 2) hX e_X3_openMinute_20 rfl rfl ?_
    obtain ⟨g5, hf⟩ := gd_s hf
    obtain ⟨r6, hr6, hf⟩ := bd_s hf
    refine r_aald hX hn e_X3_openMinute_21 g5 (Nat.le_of_ble_eq_true rfl) rfl rfl rfl hr6 ?_
    obtain ⟨g7, hf⟩ := gd_s hf
    refine r_getI hX hn e_X3_openMinute_22 fl_3_137 rfl g7 ?_
    refine r_iconst hX e_X3_openMinute_25 ic_1 ?_
    refine r_icmp_ne hX e_X3_openMinute_26 (fun hc => ?_) (fun hc => ?_)
    · have hf := ite_f hf hc
      exact GoN.weak (t_X3_openMinute_52 hX hn hR hk2 M (x0) (x1) (x2) hf) rfl (sb_s (sb_s (sb_s (sb_z _))))
    · have hf := ite_t hf hc
      refine r_aload_n (i := 0) hX e_X3_openMinute_29 rfl rfl ?_
      obtain ⟨r8, hr8, hf⟩ := bd_s hf
      refine r_getR hX hn e_X3_openMinute_30 fl_3_45 rfl g1 hr8 ?_
      refine r_iload_n (i := 2) hX e_X3_openMinute_33 rfl rfl ?_
      refine r_aload_n (i := 0) hX e_X3_openMinute_34 rfl rfl ?_
      obtain ⟨r9, hr9, hf⟩ := bd_s hf
      refine r_getR hX hn e_X3_openMinute_35 fl_3_12 rfl g1 hr9 ?_
      refine r_aload_n (i := 0) hX e_X3_openMinute_38 rfl rfl ?_
      refine r_getR hX hn e_X3_openMinute_39 fl_3_67 rfl g1 hr2 ?_
      refine r_getR hX hn e_X3_openMinute_42 fl_3_104 rfl g3 hr4 ?_
      refine r_iload_n (i := 2) hX e_X3_openMinute_45 rfl rfl ?_
      refine r_aald hX hn e_X3_openMinute_46 g5 (Nat.le_of_ble_eq_true rfl) rfl rfl rfl hr6 ?_
      refine r_iload_n (i := 1) hX e_X3_openMinute_47 rfl rfl ?_
      obtain ⟨g10, hf⟩ := gd_s hf
      obtain ⟨v11, hv11, hf⟩ := bd_s hf
      refine r_cvi (As := fun K B => [.ref (B + r6), .int (x1)]) hX hn (t_X2_quietPrice hv11) e_X3_openMinute_48 cw_X2_quietPrice cv_X2_quietPrice lk_3_140 ⟨Nat.le_of_ble_eq_true rfl, Nat.le_of_ble_eq_true rfl⟩ (ci := 2) rfl rfl (Nat.le_of_ble_eq_true rfl) g10 rfl rfl (Nat.le_of_ble_eq_true rfl) ⟨Nat.zero_le _, Nat.zero_le _⟩ ?_
      obtain ⟨g12, hf⟩ := gd_s hf
      obtain ⟨M13, hM13, hf⟩ := nx_s hf
      refine r_iast hX hn hM13 e_X3_openMinute_51 g12 ?_
      exact GoN.weak (t_X3_openMinute_52 hX hn hR hk2 M13 (x0) (x1) (x2) hf) rfl (sb_s (sb_s (sb_s (sb_z _))))
theorem t_X3_openMinute_2 {X : Cx} {res : Mem}  (hX : OkX X cX3_openMinute RX3 2 43) (hn : Fit X shC nC) (hR : RetV X shC nC res)  : ∀ (n : Nat) (M : Mem) (x0 : Nat) (x1 : Int32) (x2 : Int32),  f_X3_openMinute_2  n M x0 x1 x2 = some res → GoN X shC nC 0 0 M 2 [some (.ref (X.B + x0)), some (.int (x1)), some (.int (x2))] [] := by
  intro n
  induction n with
  | zero => intro M x0 x1 x2 hf; cases hf
  | succ n ih => intro M x0 x1 x2 hf; exact t_s_X3_openMinute_2 hX hn hR  ih M x0 x1 x2 hf
theorem t_X3_openMinute {l : Launch} {M : Mem} {a0 : Nat} {a1 : Int32} {res : Mem} (hf : f_X3_openMinute M a0 a1 = some res) : Cv l yX3_openMinute cX3_openMinute 3 none 2 43 shC nC (fun K B => [.ref (B + a0), .int a1]) M res := by
  refine met_v (own := RX3) (lo := fun K B => [some (.ref (B + a0)), some (.int a1), none]) (by decide +kernel) rfl shC_ok (fun _ _ => rfl) (fun _ _ => rfl) (fun _ _ => Nat.le_of_ble_eq_true rfl) (fun X hX hn hlx hR => ?_)
  refine r_iconst hX e_X3_openMinute_0 ic_0 ?_
  refine r_istore_n (i := 2) hX e_X3_openMinute_1 rfl (Nat.le_of_ble_eq_true rfl) rfl ?_
  exact GoN.weak (t_X3_openMinute_2 hX hn hR FU M (a0) (a1) (0) hf) rfl (sb_s (sb_s (sb_s (sb_z _))))
def s_X4_buyersAt_4 (M : Mem) (k4 : Nat → Int32 → Int32 → Int32 → Option (Int32)) (x0 : Nat) (x1 : Int32) (x2 : Int32) (x3 : Int32) : Option (Int32) :=
  gd (oB shC x0 4) <| if (gI M x0 5) ≤ x3 then some x2 else bd (gR M x0 8) fun r2 => gd (aB shC r2 6 x3) <| bd (gR M r2 (x3 : Int32).toNatClampNeg) fun r4 => gd (oB shC r4 1) <| if (gI M r4 0) = x1 then k4 (x0) (x1) ((x2 ||| (1 <<< (x3 &&& 31)))) ((x3 + 1)) else k4 (x0) (x1) (x2) ((x3 + 1))
def f_X4_buyersAt_4 (M : Mem)  : Nat → Nat → Int32 → Int32 → Int32 → Option (Int32)
  | 0 => fun _ _ _ _ => none
  | n + 1 => fun y0 y1 y2 y3 => s_X4_buyersAt_4 M  (f_X4_buyersAt_4 M  n) y0 y1 y2 y3
def f_X4_buyersAt (M : Mem) (a0 : Nat) (a1 : Int32) : Option (Int32) :=
  f_X4_buyersAt_4 M FU (a0) (a1) (0) (0)
theorem t_s_X4_buyersAt_4 {X : Cx} {M : Mem} {res : Int32} {k4 : Nat → Int32 → Int32 → Int32 → Option (Int32)} (hX : OkX X cX4_buyersAt RX4 0 0) (hn : Fit X shC nC) (hR : RetI X shC nC .int (M, res)) (hk4 : ∀ x0 x1 x2 x3, k4 x0 x1 x2 x3 = some res → GoN X shC nC 0 0 M 4 [some (.ref (X.B + x0)), some (.int (x1)), some (.int (x2)), some (.int (x3))] []) (x0 : Nat) (x1 : Int32) (x2 : Int32) (x3 : Int32) (hf : s_X4_buyersAt_4 M k4 x0 x1 x2 x3 = some res) : GoN X shC nC 0 0 M 4 [some (.ref (X.B + x0)), some (.int (x1)), some (.int (x2)), some (.int (x3))] [] := by
  refine r_iload_n (i := 3) hX e_X4_buyersAt_4 rfl rfl ?_
  refine r_aload_n (i := 0) hX e_X4_buyersAt_5 rfl rfl ?_
  obtain ⟨g1, hf⟩ := gd_s hf
  refine r_getI hX hn e_X4_buyersAt_6 fl_4_48 rfl g1 ?_
  refine r_icmp_ge hX e_X4_buyersAt_9 (fun hc => ?_) (fun hc => ?_)
  · have hf := ite_t hf hc
    refine r_iload_n (i := 2) hX e_X4_buyersAt_37 rfl rfl ?_
    exact r_iret hX hR e_X4_buyersAt_38 (ro_s hf)
  · have hf := ite_f hf hc
    refine r_aload_n (i := 0) hX e_X4_buyersAt_12 rfl rfl ?_
    obtain ⟨r2, hr2, hf⟩ := bd_s hf
    refine r_getR hX hn e_X4_buyersAt_13 fl_4_25 rfl g1 hr2 ?_
    refine r_iload_n (i := 3) hX e_X4_buyersAt_16 rfl rfl ?_
    obtain ⟨g3, hf⟩ := gd_s hf
    obtain ⟨r4, hr4, hf⟩ := bd_s hf
    refine r_aald hX hn e_X4_buyersAt_17 g3 (Nat.le_of_ble_eq_true rfl) rfl rfl rfl hr4 ?_
    obtain ⟨g5, hf⟩ := gd_s hf
    refine r_getI hX hn e_X4_buyersAt_18 fl_4_61 rfl g5 ?_
    refine r_iload_n (i := 1) hX e_X4_buyersAt_21 rfl rfl ?_
    refine r_icmp_ne hX e_X4_buyersAt_22 (fun hc => ?_) (fun hc => ?_)
    · have hf := ite_f hf hc
      refine r_iinc (v := x3 + 1) hX e_X4_buyersAt_31 rfl (ii_s ic_1) (Nat.le_of_ble_eq_true rfl) rfl ?_
      refine r_goto hX e_X4_buyersAt_34 ?_
      exact GoN.weak (hk4 (x0) (x1) (x2) ((x3 + 1)) hf) rfl (sb_s (sb_s (sb_s (sb_s (sb_z _)))))
    · have hf := ite_t hf hc
      refine r_iload_n (i := 2) hX e_X4_buyersAt_25 rfl rfl ?_
      refine r_iconst hX e_X4_buyersAt_26 ic_1 ?_
      refine r_iload_n (i := 3) hX e_X4_buyersAt_27 rfl rfl ?_
      refine r_ishl hX e_X4_buyersAt_28 ?_
      refine r_ior hX e_X4_buyersAt_29 ?_
      refine r_istore_n (i := 2) hX e_X4_buyersAt_30 rfl (Nat.le_of_ble_eq_true rfl) rfl ?_
      refine r_iinc (v := x3 + 1) hX e_X4_buyersAt_31 rfl (ii_s ic_1) (Nat.le_of_ble_eq_true rfl) rfl ?_
      refine r_goto hX e_X4_buyersAt_34 ?_
      exact GoN.weak (hk4 (x0) (x1) ((x2 ||| (1 <<< (x3 &&& 31)))) ((x3 + 1)) hf) rfl (sb_s (sb_s (sb_s (sb_s (sb_z _)))))
theorem t_X4_buyersAt_4 {X : Cx} {M : Mem} {res : Int32}  (hX : OkX X cX4_buyersAt RX4 0 0) (hn : Fit X shC nC) (hR : RetI X shC nC .int (M, res))  : ∀ (n : Nat) (x0 : Nat) (x1 : Int32) (x2 : Int32) (x3 : Int32),  f_X4_buyersAt_4 M  n x0 x1 x2 x3 = some res → GoN X shC nC 0 0 M 4 [some (.ref (X.B + x0)), some (.int (x1)), some (.int (x2)), some (.int (x3))] [] := by
  intro n
  induction n with
  | zero => intro x0 x1 x2 x3 hf; cases hf
  | succ n ih => intro x0 x1 x2 x3 hf; exact t_s_X4_buyersAt_4 hX hn hR  ih x0 x1 x2 x3 hf
theorem t_X4_buyersAt {l : Launch} {M : Mem} {a0 : Nat} {a1 : Int32} {res : Int32} (hf : f_X4_buyersAt M a0 a1 = some res) : Ci l yX4_buyersAt cX4_buyersAt 4 (some .int) 0 0 shC nC (fun K B => [.ref (B + a0), .int a1]) M (M, res) := by
  refine met_i (own := RX4) (lo := fun K B => [some (.ref (B + a0)), some (.int a1), none, none]) (by decide +kernel) rfl shC_ok (fun _ _ => rfl) (fun _ _ => rfl) (fun _ _ => Nat.le_of_ble_eq_true rfl) (fun X hX hn hlx hR => ?_)
  refine r_iconst hX e_X4_buyersAt_0 ic_0 ?_
  refine r_istore_n (i := 2) hX e_X4_buyersAt_1 rfl (Nat.le_of_ble_eq_true rfl) rfl ?_
  refine r_iconst hX e_X4_buyersAt_2 ic_0 ?_
  refine r_istore_n (i := 3) hX e_X4_buyersAt_3 rfl (Nat.le_of_ble_eq_true rfl) rfl ?_
  exact GoN.weak (t_X4_buyersAt_4 hX hn hR FU (a0) (a1) (0) (0) hf) rfl (sb_s (sb_s (sb_s (sb_s (sb_z _)))))
def f_X3_wouldBuy (M : Mem) (a0 : Nat) (a1 : Int32) (a2 : Int32) (a3 : Int32) (a4 : Int32) : Option (Int32) :=
  gd (oB shC a0 3) <| bd (gR M a0 10) fun r2 => gd (oB shC r2 4) <| bd (gR M r2 8) fun r4 => gd (aB shC r4 6 a1) <| bd (gR M r4 (a1 : Int32).toNatClampNeg) fun r6 => gd (oB shC r6 1) <| if (gI M r6 2) = 1 then if (gI M r2 1) ≤ (2 * a4) then some 1 else if (a3 / 2) < a2 then some 0 else some 1 else if (gI M r6 2) = 2 then bd (gR M a0 17) fun r8 => gd (aB shC r8 0 a1) <| if (gI M r8 (a1 : Int32).toNatClampNeg) = a4 then some 1 else if (a4 - 2) ≤ (gI M r8 (a1 : Int32).toNatClampNeg) then some 0 else some 1 else some 1
theorem t_X3_wouldBuy {l : Launch} {M : Mem} {a0 : Nat} {a1 a2 a3 a4 : Int32} {res : Int32} (hf : f_X3_wouldBuy M a0 a1 a2 a3 a4 = some res) : Ci l yX3_wouldBuy cX3_wouldBuy 5 (some .boolean) 0 0 shC nC (fun K B => [.ref (B + a0), .int a1, .int a2, .int a3, .int a4]) M (M, res) := by
  refine met_i (own := RX3) (lo := fun K B => [some (.ref (B + a0)), some (.int a1), some (.int a2), some (.int a3), some (.int a4)]) (by decide +kernel) rfl shC_ok (fun _ _ => rfl) (fun _ _ => rfl) (fun _ _ => Nat.le_of_ble_eq_true rfl) (fun X hX hn hlx hR => ?_)
  refine r_aload_n (i := 0) hX e_X3_wouldBuy_0 rfl rfl ?_
  obtain ⟨g1, hf⟩ := gd_s hf
  obtain ⟨r2, hr2, hf⟩ := bd_s hf
  refine r_getR hX hn e_X3_wouldBuy_1 fl_3_67 rfl g1 hr2 ?_
  obtain ⟨g3, hf⟩ := gd_s hf
  obtain ⟨r4, hr4, hf⟩ := bd_s hf
  refine r_getR hX hn e_X3_wouldBuy_4 fl_3_118 rfl g3 hr4 ?_
  refine r_iload_n (i := 1) hX e_X3_wouldBuy_7 rfl rfl ?_
  obtain ⟨g5, hf⟩ := gd_s hf
  obtain ⟨r6, hr6, hf⟩ := bd_s hf
  refine r_aald hX hn e_X3_wouldBuy_8 g5 (Nat.le_of_ble_eq_true rfl) rfl rfl rfl hr6 ?_
  obtain ⟨g7, hf⟩ := gd_s hf
  refine r_getI hX hn e_X3_wouldBuy_9 fl_3_171 rfl g7 ?_
  by_cases hs0 : (gI M r6 2) = 1
  · have hf := ite_t hf hs0
    refine r_lookup (tgt := 40) (off := 28) hX e_X3_wouldBuy_12 (by decide) (by rw [hs0]; decide) (by decide) ?_
    refine r_iconst hX e_X3_wouldBuy_40 ic_2 ?_
    refine r_iload hX e_X3_wouldBuy_41 rfl ?_
    refine r_imul hX e_X3_wouldBuy_43 ?_
    refine r_aload_n (i := 0) hX e_X3_wouldBuy_44 rfl rfl ?_
    refine r_getR hX hn e_X3_wouldBuy_45 fl_3_67 rfl g1 hr2 ?_
    refine r_getI hX hn e_X3_wouldBuy_48 fl_3_78 rfl g3 ?_
    refine r_icmp_ge hX e_X3_wouldBuy_51 (fun hc => ?_) (fun hc => ?_)
    · have hf := ite_t hf hc
      refine r_iconst hX e_X3_wouldBuy_61 ic_1 ?_
      refine r_goto hX e_X3_wouldBuy_62 ?_
      exact r_zret hX hR rfl e_X3_wouldBuy_66 (ro_s hf)
    · have hf := ite_f hf hc
      refine r_iload_n (i := 2) hX e_X3_wouldBuy_54 rfl rfl ?_
      refine r_iload_n (i := 3) hX e_X3_wouldBuy_55 rfl rfl ?_
      refine r_iconst hX e_X3_wouldBuy_56 ic_2 ?_
      refine r_idiv hX e_X3_wouldBuy_57 (by decide) ?_
      refine r_icmp_gt hX e_X3_wouldBuy_58 (fun hc => ?_) (fun hc => ?_)
      · have hf := ite_t hf hc
        refine r_iconst hX e_X3_wouldBuy_65 ic_0 ?_
        exact r_zret hX hR rfl e_X3_wouldBuy_66 (ro_s hf)
      · have hf := ite_f hf hc
        refine r_iconst hX e_X3_wouldBuy_61 ic_1 ?_
        refine r_goto hX e_X3_wouldBuy_62 ?_
        exact r_zret hX hR rfl e_X3_wouldBuy_66 (ro_s hf)
  have hf := ite_f hf hs0
  by_cases hs1 : (gI M r6 2) = 2
  · have hf := ite_t hf hs1
    refine r_lookup (tgt := 67) (off := 55) hX e_X3_wouldBuy_12 (by decide) (by rw [hs1]; decide) (by decide) ?_
    refine r_aload_n (i := 0) hX e_X3_wouldBuy_67 rfl rfl ?_
    obtain ⟨r8, hr8, hf⟩ := bd_s hf
    refine r_getR hX hn e_X3_wouldBuy_68 fl_3_64 rfl g1 hr8 ?_
    refine r_iload_n (i := 1) hX e_X3_wouldBuy_71 rfl rfl ?_
    obtain ⟨g9, hf⟩ := gd_s hf
    refine r_iald hX hn e_X3_wouldBuy_72 g9 ?_
    refine r_iload hX e_X3_wouldBuy_73 rfl ?_
    refine r_icmp_eq hX e_X3_wouldBuy_75 (fun hc => ?_) (fun hc => ?_)
    · have hf := ite_t hf hc
      refine r_iconst hX e_X3_wouldBuy_91 ic_1 ?_
      refine r_goto hX e_X3_wouldBuy_92 ?_
      exact r_zret hX hR rfl e_X3_wouldBuy_96 (ro_s hf)
    · have hf := ite_f hf hc
      refine r_aload_n (i := 0) hX e_X3_wouldBuy_78 rfl rfl ?_
      refine r_getR hX hn e_X3_wouldBuy_79 fl_3_64 rfl g1 hr8 ?_
      refine r_iload_n (i := 1) hX e_X3_wouldBuy_82 rfl rfl ?_
      refine r_iald hX hn e_X3_wouldBuy_83 g9 ?_
      refine r_iload hX e_X3_wouldBuy_84 rfl ?_
      refine r_iconst hX e_X3_wouldBuy_86 ic_2 ?_
      refine r_isub hX e_X3_wouldBuy_87 ?_
      refine r_icmp_ge hX e_X3_wouldBuy_88 (fun hc => ?_) (fun hc => ?_)
      · have hf := ite_t hf hc
        refine r_iconst hX e_X3_wouldBuy_95 ic_0 ?_
        exact r_zret hX hR rfl e_X3_wouldBuy_96 (ro_s hf)
      · have hf := ite_f hf hc
        refine r_iconst hX e_X3_wouldBuy_91 ic_1 ?_
        refine r_goto hX e_X3_wouldBuy_92 ?_
        exact r_zret hX hR rfl e_X3_wouldBuy_96 (ro_s hf)
  have hf := ite_f hf hs1
  refine r_lookup (tgt := 97) (off := 85) hX e_X3_wouldBuy_12 (by decide) ?_ (by decide) ?_
  · have z0 : (gI M r6 2).toInt ≠ 1 := i32_ne hs0 (by decide); have z1 : (gI M r6 2).toInt ≠ 2 := i32_ne hs1 (by decide); simp [Op.lookupswitch.offset, z0, z0.symm, z1, z1.symm]
  refine r_iconst hX e_X3_wouldBuy_97 ic_1 ?_
  exact r_zret hX hR rfl e_X3_wouldBuy_98 (ro_s hf)
def s_X3_lackOf_4 (M : Mem) (k4 : Nat → Int32 → Int32 → Int32 → Option (Int32)) (x0 : Nat) (x1 : Int32) (x2 : Int32) (x3 : Int32) : Option (Int32) :=
  gd (oB shC x0 3) <| bd (gR M x0 10) fun r2 => gd (oB shC r2 4) <| bd (gR M r2 8) fun r4 => gd (aB shC r4 6 x1) <| bd (gR M r4 (x1 : Int32).toNatClampNeg) fun r6 => gd (oB shC r6 1) <| if (gI M r6 3) ≤ x3 then some x2 else bd (gR M x0 16) fun r8 => gd (aB shC r8 9 x1) <| bd (gR M r8 (x1 : Int32).toNatClampNeg) fun r10 => gd (aB shC r10 0 x3) <| k4 (x0) (x1) ((x2 + (gI M r10 (x3 : Int32).toNatClampNeg))) ((x3 + 1))
def f_X3_lackOf_4 (M : Mem)  : Nat → Nat → Int32 → Int32 → Int32 → Option (Int32)
  | 0 => fun _ _ _ _ => none
  | n + 1 => fun y0 y1 y2 y3 => s_X3_lackOf_4 M  (f_X3_lackOf_4 M  n) y0 y1 y2 y3
def f_X3_lackOf (M : Mem) (a0 : Nat) (a1 : Int32) : Option (Int32) :=
  f_X3_lackOf_4 M FU (a0) (a1) (0) (0)
theorem t_s_X3_lackOf_4 {X : Cx} {M : Mem} {res : Int32} {k4 : Nat → Int32 → Int32 → Int32 → Option (Int32)} (hX : OkX X cX3_lackOf RX3 0 0) (hn : Fit X shC nC) (hR : RetI X shC nC .int (M, res)) (hk4 : ∀ x0 x1 x2 x3, k4 x0 x1 x2 x3 = some res → GoN X shC nC 0 0 M 4 [some (.ref (X.B + x0)), some (.int (x1)), some (.int (x2)), some (.int (x3))] []) (x0 : Nat) (x1 : Int32) (x2 : Int32) (x3 : Int32) (hf : s_X3_lackOf_4 M k4 x0 x1 x2 x3 = some res) : GoN X shC nC 0 0 M 4 [some (.ref (X.B + x0)), some (.int (x1)), some (.int (x2)), some (.int (x3))] [] := by
  refine r_iload_n (i := 3) hX e_X3_lackOf_4 rfl rfl ?_
  refine r_aload_n (i := 0) hX e_X3_lackOf_5 rfl rfl ?_
  obtain ⟨g1, hf⟩ := gd_s hf
  obtain ⟨r2, hr2, hf⟩ := bd_s hf
  refine r_getR hX hn e_X3_lackOf_6 fl_3_67 rfl g1 hr2 ?_
  obtain ⟨g3, hf⟩ := gd_s hf
  obtain ⟨r4, hr4, hf⟩ := bd_s hf
  refine r_getR hX hn e_X3_lackOf_9 fl_3_118 rfl g3 hr4 ?_
  refine r_iload_n (i := 1) hX e_X3_lackOf_12 rfl rfl ?_
  obtain ⟨g5, hf⟩ := gd_s hf
  obtain ⟨r6, hr6, hf⟩ := bd_s hf
  refine r_aald hX hn e_X3_lackOf_13 g5 (Nat.le_of_ble_eq_true rfl) rfl rfl rfl hr6 ?_
  obtain ⟨g7, hf⟩ := gd_s hf
  refine r_getI hX hn e_X3_lackOf_14 fl_3_128 rfl g7 ?_
  refine r_icmp_ge hX e_X3_lackOf_17 (fun hc => ?_) (fun hc => ?_)
  · have hf := ite_t hf hc
    refine r_iload_n (i := 2) hX e_X3_lackOf_37 rfl rfl ?_
    exact r_iret hX hR e_X3_lackOf_38 (ro_s hf)
  · have hf := ite_f hf hc
    refine r_iload_n (i := 2) hX e_X3_lackOf_20 rfl rfl ?_
    refine r_aload_n (i := 0) hX e_X3_lackOf_21 rfl rfl ?_
    obtain ⟨r8, hr8, hf⟩ := bd_s hf
    refine r_getR hX hn e_X3_lackOf_22 fl_3_61 rfl g1 hr8 ?_
    refine r_iload_n (i := 1) hX e_X3_lackOf_25 rfl rfl ?_
    obtain ⟨g9, hf⟩ := gd_s hf
    obtain ⟨r10, hr10, hf⟩ := bd_s hf
    refine r_aald hX hn e_X3_lackOf_26 g9 (Nat.le_of_ble_eq_true rfl) rfl rfl rfl hr10 ?_
    refine r_iload_n (i := 3) hX e_X3_lackOf_27 rfl rfl ?_
    obtain ⟨g11, hf⟩ := gd_s hf
    refine r_iald hX hn e_X3_lackOf_28 g11 ?_
    refine r_iadd hX e_X3_lackOf_29 ?_
    refine r_istore_n (i := 2) hX e_X3_lackOf_30 rfl (Nat.le_of_ble_eq_true rfl) rfl ?_
    refine r_iinc (v := x3 + 1) hX e_X3_lackOf_31 rfl (ii_s ic_1) (Nat.le_of_ble_eq_true rfl) rfl ?_
    refine r_goto hX e_X3_lackOf_34 ?_
    exact GoN.weak (hk4 (x0) (x1) ((x2 + (gI M r10 (x3 : Int32).toNatClampNeg))) ((x3 + 1)) hf) rfl (sb_s (sb_s (sb_s (sb_s (sb_z _)))))
theorem t_X3_lackOf_4 {X : Cx} {M : Mem} {res : Int32}  (hX : OkX X cX3_lackOf RX3 0 0) (hn : Fit X shC nC) (hR : RetI X shC nC .int (M, res))  : ∀ (n : Nat) (x0 : Nat) (x1 : Int32) (x2 : Int32) (x3 : Int32),  f_X3_lackOf_4 M  n x0 x1 x2 x3 = some res → GoN X shC nC 0 0 M 4 [some (.ref (X.B + x0)), some (.int (x1)), some (.int (x2)), some (.int (x3))] [] := by
  intro n
  induction n with
  | zero => intro x0 x1 x2 x3 hf; cases hf
  | succ n ih => intro x0 x1 x2 x3 hf; exact t_s_X3_lackOf_4 hX hn hR  ih x0 x1 x2 x3 hf
theorem t_X3_lackOf {l : Launch} {M : Mem} {a0 : Nat} {a1 : Int32} {res : Int32} (hf : f_X3_lackOf M a0 a1 = some res) : Ci l yX3_lackOf cX3_lackOf 4 (some .int) 0 0 shC nC (fun K B => [.ref (B + a0), .int a1]) M (M, res) := by
  refine met_i (own := RX3) (lo := fun K B => [some (.ref (B + a0)), some (.int a1), none, none]) (by decide +kernel) rfl shC_ok (fun _ _ => rfl) (fun _ _ => rfl) (fun _ _ => Nat.le_of_ble_eq_true rfl) (fun X hX hn hlx hR => ?_)
  refine r_iconst hX e_X3_lackOf_0 ic_0 ?_
  refine r_istore_n (i := 2) hX e_X3_lackOf_1 rfl (Nat.le_of_ble_eq_true rfl) rfl ?_
  refine r_iconst hX e_X3_lackOf_2 ic_0 ?_
  refine r_istore_n (i := 3) hX e_X3_lackOf_3 rfl (Nat.le_of_ble_eq_true rfl) rfl ?_
  exact GoN.weak (t_X3_lackOf_4 hX hn hR FU (a0) (a1) (0) (0) hf) rfl (sb_s (sb_s (sb_s (sb_s (sb_z _)))))
def f_X3_sell_54  (M : Mem) (x0 : Nat) (x1 : Int32) (x2 : Int32) (x3 : Int32) : Option (Mem) :=
  gd (oB shC x0 3) <| if 160 ≤ (gI M x0 4) then some M else bd (gR M x0 5) fun r2 => gd (aB shC r2 0 (gI M x0 4)) <| nx (sI M r2 ((gI M x0 4) : Int32).toNatClampNeg x3) fun M4 => bd (gR M4 x0 6) fun r5 => gd (aB shC r5 0 (gI M4 x0 4)) <| nx (sI M4 r5 ((gI M4 x0 4) : Int32).toNatClampNeg x1) fun M7 => bd (gR M7 x0 7) fun r8 => gd (aB shC r8 0 (gI M7 x0 4)) <| nx (sI M7 r8 ((gI M7 x0 4) : Int32).toNatClampNeg x2) fun M10 => bd (gR M10 x0 8) fun r11 => bd (gR M10 x0 11) fun r12 => gd (aB shC r12 0 x1) <| gd (aB shC r11 0 (gI M10 x0 4)) <| nx (sI M10 r11 ((gI M10 x0 4) : Int32).toNatClampNeg (gI M10 r12 (x1 : Int32).toNatClampNeg)) fun M15 => nx (sI M15 x0 4 ((gI M15 x0 4) + 1)) fun M16 => some M16
def f_X3_sell (M : Mem) (a0 : Nat) (a1 : Int32) (a2 : Int32) (a3 : Int32) : Option (Mem) :=
  gd (oB shC a0 3) <| bd (gR M a0 12) fun r2 => gd (aB shC r2 0 a1) <| nx (sI M r2 (a1 : Int32).toNatClampNeg ((gI M r2 (a1 : Int32).toNatClampNeg) - 1)) fun M4 => bd (gR M4 a0 15) fun r5 => gd (aB shC r5 0 a2) <| bd (gR M4 a0 11) fun r7 => gd (aB shC r7 0 a1) <| nx (((gI M4 r5 (a2 : Int32).toNatClampNeg) - (gI M4 r7 (a1 : Int32).toNatClampNeg))) fun v9 => nx (sI M4 r5 (a2 : Int32).toNatClampNeg v9) fun M10 => bd (gR M10 a0 13) fun r11 => gd (aB shC r11 2 a1) <| nx (sI M10 r11 (a1 : Int32).toNatClampNeg (vp_nar .boolean 1)) fun M13 => bd (gR M13 a0 17) fun r14 => gd (aB shC r14 0 a2) <| nx (sI M13 r14 (a2 : Int32).toNatClampNeg a3) fun M16 => bd (f_X3_lackOf M16 a0 a2) fun v17 => if v17 = 0 then bd (gR M16 a0 9) fun r18 => gd (aB shC r18 0 a2) <| nx (sI M16 r18 (a2 : Int32).toNatClampNeg a3) fun M20 => f_X3_sell_54 M20 (a0) (a1) (a2) (a3) else f_X3_sell_54 M16 (a0) (a1) (a2) (a3)
theorem t_X3_sell_54 {X : Cx} {res : Mem}  (hX : OkX X cX3_sell RX3 1 23) (hn : Fit X shC nC) (hR : RetV X shC nC res)  (M : Mem) (x0 : Nat) (x1 : Int32) (x2 : Int32) (x3 : Int32) (hf : f_X3_sell_54  M x0 x1 x2 x3 = some res) : GoN X shC nC 0 0 M 54 [some (.ref (X.B + x0)), some (.int (x1)), some (.int (x2)), some (.int (x3))] [] := by
  refine r_aload_n (i := 0) hX e_X3_sell_54 rfl rfl ?_
  obtain ⟨g1, hf⟩ := gd_s hf
  refine r_getI hX hn e_X3_sell_55 fl_3_98 rfl g1 ?_
  refine r_sipush hX e_X3_sell_58 sc_160 ?_
  refine r_icmp_ge hX e_X3_sell_61 (fun hc => ?_) (fun hc => ?_)
  · have hf := ite_t hf hc
    exact r_ret hX hR e_X3_sell_119 hf
  · have hf := ite_f hf hc
    refine r_aload_n (i := 0) hX e_X3_sell_64 rfl rfl ?_
    obtain ⟨r2, hr2, hf⟩ := bd_s hf
    refine r_getR hX hn e_X3_sell_65 fl_3_29 rfl g1 hr2 ?_
    refine r_aload_n (i := 0) hX e_X3_sell_68 rfl rfl ?_
    refine r_getI hX hn e_X3_sell_69 fl_3_98 rfl g1 ?_
    refine r_iload_n (i := 3) hX e_X3_sell_72 rfl rfl ?_
    obtain ⟨g3, hf⟩ := gd_s hf
    obtain ⟨M4, hM4, hf⟩ := nx_s hf
    refine r_iast hX hn hM4 e_X3_sell_73 g3 ?_
    refine r_aload_n (i := 0) hX e_X3_sell_74 rfl rfl ?_
    obtain ⟨r5, hr5, hf⟩ := bd_s hf
    refine r_getR hX hn e_X3_sell_75 fl_3_33 rfl g1 hr5 ?_
    refine r_aload_n (i := 0) hX e_X3_sell_78 rfl rfl ?_
    refine r_getI hX hn e_X3_sell_79 fl_3_98 rfl g1 ?_
    refine r_iload_n (i := 1) hX e_X3_sell_82 rfl rfl ?_
    obtain ⟨g6, hf⟩ := gd_s hf
    obtain ⟨M7, hM7, hf⟩ := nx_s hf
    refine r_iast hX hn hM7 e_X3_sell_83 g6 ?_
    refine r_aload_n (i := 0) hX e_X3_sell_84 rfl rfl ?_
    obtain ⟨r8, hr8, hf⟩ := bd_s hf
    refine r_getR hX hn e_X3_sell_85 fl_3_36 rfl g1 hr8 ?_
    refine r_aload_n (i := 0) hX e_X3_sell_88 rfl rfl ?_
    refine r_getI hX hn e_X3_sell_89 fl_3_98 rfl g1 ?_
    refine r_iload_n (i := 2) hX e_X3_sell_92 rfl rfl ?_
    obtain ⟨g9, hf⟩ := gd_s hf
    obtain ⟨M10, hM10, hf⟩ := nx_s hf
    refine r_iast hX hn hM10 e_X3_sell_93 g9 ?_
    refine r_aload_n (i := 0) hX e_X3_sell_94 rfl rfl ?_
    obtain ⟨r11, hr11, hf⟩ := bd_s hf
    refine r_getR hX hn e_X3_sell_95 fl_3_39 rfl g1 hr11 ?_
    refine r_aload_n (i := 0) hX e_X3_sell_98 rfl rfl ?_
    refine r_getI hX hn e_X3_sell_99 fl_3_98 rfl g1 ?_
    refine r_aload_n (i := 0) hX e_X3_sell_102 rfl rfl ?_
    obtain ⟨r12, hr12, hf⟩ := bd_s hf
    refine r_getR hX hn e_X3_sell_103 fl_3_45 rfl g1 hr12 ?_
    refine r_iload_n (i := 1) hX e_X3_sell_106 rfl rfl ?_
    obtain ⟨g13, hf⟩ := gd_s hf
    refine r_iald hX hn e_X3_sell_107 g13 ?_
    obtain ⟨g14, hf⟩ := gd_s hf
    obtain ⟨M15, hM15, hf⟩ := nx_s hf
    refine r_iast hX hn hM15 e_X3_sell_108 g14 ?_
    refine r_aload_n (i := 0) hX e_X3_sell_109 rfl rfl ?_
    refine r_dup hX e_X3_sell_110 rfl ?_
    refine r_getI hX hn e_X3_sell_111 fl_3_98 rfl g1 ?_
    refine r_iconst hX e_X3_sell_114 ic_1 ?_
    refine r_iadd hX e_X3_sell_115 ?_
    obtain ⟨M16, hM16, hf⟩ := nx_s hf
    refine r_putI hX hn hM16 e_X3_sell_116 fl_3_98 fp_3_4 rfl g1 ?_
    exact r_ret hX hR e_X3_sell_119 hf
theorem t_X3_sell {l : Launch} {M : Mem} {a0 : Nat} {a1 a2 a3 : Int32} {res : Mem} (hf : f_X3_sell M a0 a1 a2 a3 = some res) : Cv l yX3_sell cX3_sell 4 none 1 23 shC nC (fun K B => [.ref (B + a0), .int a1, .int a2, .int a3]) M res := by
  refine met_v (own := RX3) (lo := fun K B => [some (.ref (B + a0)), some (.int a1), some (.int a2), some (.int a3)]) (by decide +kernel) rfl shC_ok (fun _ _ => rfl) (fun _ _ => rfl) (fun _ _ => Nat.le_of_ble_eq_true rfl) (fun X hX hn hlx hR => ?_)
  refine r_aload_n (i := 0) hX e_X3_sell_0 rfl rfl ?_
  obtain ⟨g1, hf⟩ := gd_s hf
  obtain ⟨r2, hr2, hf⟩ := bd_s hf
  refine r_getR hX hn e_X3_sell_1 fl_3_48 rfl g1 hr2 ?_
  refine r_iload_n (i := 1) hX e_X3_sell_4 rfl rfl ?_
  refine r_dup2_11 hX e_X3_sell_5 rfl rfl ?_
  obtain ⟨g3, hf⟩ := gd_s hf
  refine r_iald hX hn e_X3_sell_6 g3 ?_
  refine r_iconst hX e_X3_sell_7 ic_1 ?_
  refine r_isub hX e_X3_sell_8 ?_
  obtain ⟨M4, hM4, hf⟩ := nx_s hf
  refine r_iast hX hn hM4 e_X3_sell_9 g3 ?_
  refine r_aload_n (i := 0) hX e_X3_sell_10 rfl rfl ?_
  obtain ⟨r5, hr5, hf⟩ := bd_s hf
  refine r_getR hX hn e_X3_sell_11 fl_3_58 rfl g1 hr5 ?_
  refine r_iload_n (i := 2) hX e_X3_sell_14 rfl rfl ?_
  refine r_dup2_11 hX e_X3_sell_15 rfl rfl ?_
  obtain ⟨g6, hf⟩ := gd_s hf
  refine r_iald hX hn e_X3_sell_16 g6 ?_
  refine r_aload_n (i := 0) hX e_X3_sell_17 rfl rfl ?_
  obtain ⟨r7, hr7, hf⟩ := bd_s hf
  refine r_getR hX hn e_X3_sell_18 fl_3_45 rfl g1 hr7 ?_
  refine r_iload_n (i := 1) hX e_X3_sell_21 rfl rfl ?_
  obtain ⟨g8, hf⟩ := gd_s hf
  refine r_iald hX hn e_X3_sell_22 g8 ?_
  refine r_isub hX e_X3_sell_23 ?_
  obtain ⟨v9, hv9, hf⟩ := nx_s hf
  refine top_i hv9 ?_
  obtain ⟨M10, hM10, hf⟩ := nx_s hf
  refine r_iast hX hn hM10 e_X3_sell_24 g6 ?_
  refine r_aload_n (i := 0) hX e_X3_sell_25 rfl rfl ?_
  obtain ⟨r11, hr11, hf⟩ := bd_s hf
  refine r_getR hX hn e_X3_sell_26 fl_3_51 rfl g1 hr11 ?_
  refine r_iload_n (i := 1) hX e_X3_sell_29 rfl rfl ?_
  refine r_iconst hX e_X3_sell_30 ic_1 ?_
  obtain ⟨g12, hf⟩ := gd_s hf
  obtain ⟨M13, hM13, hf⟩ := nx_s hf
  refine r_zast hX hn hM13 e_X3_sell_31 g12 ?_
  refine r_aload_n (i := 0) hX e_X3_sell_32 rfl rfl ?_
  obtain ⟨r14, hr14, hf⟩ := bd_s hf
  refine r_getR hX hn e_X3_sell_33 fl_3_64 rfl g1 hr14 ?_
  refine r_iload_n (i := 2) hX e_X3_sell_36 rfl rfl ?_
  refine r_iload_n (i := 3) hX e_X3_sell_37 rfl rfl ?_
  obtain ⟨g15, hf⟩ := gd_s hf
  obtain ⟨M16, hM16, hf⟩ := nx_s hf
  refine r_iast hX hn hM16 e_X3_sell_38 g15 ?_
  refine r_aload_n (i := 0) hX e_X3_sell_39 rfl rfl ?_
  refine r_iload_n (i := 2) hX e_X3_sell_40 rfl rfl ?_
  obtain ⟨v17, hv17, hf⟩ := bd_s hf
  refine r_cvi (As := fun K B => [.int (a2)]) hX hn (t_X3_lackOf hv17) e_X3_sell_41 cw_X3_lackOf cv_X3_lackOf lk_3_174 ⟨Nat.le_of_ble_eq_true rfl, Nat.le_of_ble_eq_true rfl⟩ (ci := 3) rfl rfl (Nat.le_of_ble_eq_true rfl) g1 rfl rfl (Nat.le_of_ble_eq_true rfl) ⟨Nat.zero_le _, Nat.zero_le _⟩ ?_
  refine r_if_ne hX e_X3_sell_44 (fun hc => ?_) (fun hc => ?_)
  · have hf := ite_f hf hc
    exact GoN.weak (t_X3_sell_54 hX hn hR M16 (a0) (a1) (a2) (a3) hf) rfl (sb_s (sb_s (sb_s (sb_s (sb_z _)))))
  · have hf := ite_t hf hc
    refine r_aload_n (i := 0) hX e_X3_sell_47 rfl rfl ?_
    obtain ⟨r18, hr18, hf⟩ := bd_s hf
    refine r_getR hX hn e_X3_sell_48 fl_3_42 rfl g1 hr18 ?_
    refine r_iload_n (i := 2) hX e_X3_sell_51 rfl rfl ?_
    refine r_iload_n (i := 3) hX e_X3_sell_52 rfl rfl ?_
    obtain ⟨g19, hf⟩ := gd_s hf
    obtain ⟨M20, hM20, hf⟩ := nx_s hf
    refine r_iast hX hn hM20 e_X3_sell_53 g19 ?_
    exact GoN.weak (t_X3_sell_54 hX hn hR M20 (a0) (a1) (a2) (a3) hf) rfl (sb_s (sb_s (sb_s (sb_s (sb_z _)))))
def f_X3_meet_90  (M : Mem) (x0 : Nat) (x1 : Int32) : Option (Mem) :=
  gd (oB shC x0 3) <| bd (gR M x0 14) fun r2 => gd (aB shC r2 2 x1) <| nx (sI M r2 (x1 : Int32).toNatClampNeg (vp_nar .boolean 1)) fun M4 => some M4
def f_X3_meet (M : Mem) (a0 : Nat) (a1 : Int32) (a2 : Int32) (a3 : Int32) : Option (Mem) :=
  gd (oB shC a0 3) <| bd (gR M a0 10) fun r2 => gd (oB shC r2 4) <| bd (gR M r2 8) fun r4 => gd (aB shC r4 6 a2) <| bd (gR M r4 (a2 : Int32).toNatClampNeg) fun r6 => bd (gR M r2 7) fun r7 => gd (aB shC r7 5 a1) <| bd (gR M r7 (a1 : Int32).toNatClampNeg) fun r9 => gd (oB shC r9 9) <| gd (oB shC r6 1) <| bd (f_X1_wantOf M r6 (gI M r9 2)) fun v12 => bd (gR M a0 12) fun r13 => gd (aB shC r13 0 a1) <| if (gI M r13 (a1 : Int32).toNatClampNeg) = 0 then some M else if v12 = (-1) then some M else bd (gR M a0 16) fun r15 => gd (aB shC r15 9 a2) <| bd (gR M r15 (a2 : Int32).toNatClampNeg) fun r17 => gd (aB shC r17 0 v12) <| if (gI M r17 (v12 : Int32).toNatClampNeg) = 0 then some M else bd (gR M a0 11) fun r19 => gd (aB shC r19 0 a1) <| bd (gR M r6 6) fun r21 => gd (aB shC r21 0 v12) <| if (gI M r21 (v12 : Int32).toNatClampNeg) < (gI M r19 (a1 : Int32).toNatClampNeg) then f_X3_meet_90 M (a0) (a1) else bd (gR M a0 15) fun r23 => gd (aB shC r23 0 a2) <| if (gI M r19 (a1 : Int32).toNatClampNeg) ≤ (gI M r23 (a2 : Int32).toNatClampNeg) then bd (f_X3_wouldBuy M a0 a2 (gI M r19 (a1 : Int32).toNatClampNeg) (gI M r21 (v12 : Int32).toNatClampNeg) a3) fun v25 => if v25 = 0 then some M else nx (sI M r17 (v12 : Int32).toNatClampNeg ((gI M r17 (v12 : Int32).toNatClampNeg) - 1)) fun M26 => bd (f_X3_sell M26 a0 a1 a2 a3) fun u27 => some u27 else f_X3_meet_90 M (a0) (a1)
theorem t_X3_meet_90 {X : Cx} {res : Mem}  (hX : OkX X cX3_meet RX3 2 46) (hn : Fit X shC nC) (hR : RetV X shC nC res)  (M : Mem) (x0 : Nat) (x1 : Int32) (hf : f_X3_meet_90  M x0 x1 = some res) : GoN X shC nC 0 0 M 90 [some (.ref (X.B + x0)), some (.int (x1)), none, none, none, none] [] := by
  refine r_aload_n (i := 0) hX e_X3_meet_90 rfl rfl ?_
  obtain ⟨g1, hf⟩ := gd_s hf
  obtain ⟨r2, hr2, hf⟩ := bd_s hf
  refine r_getR hX hn e_X3_meet_91 fl_3_55 rfl g1 hr2 ?_
  refine r_iload_n (i := 1) hX e_X3_meet_94 rfl rfl ?_
  refine r_iconst hX e_X3_meet_95 ic_1 ?_
  obtain ⟨g3, hf⟩ := gd_s hf
  obtain ⟨M4, hM4, hf⟩ := nx_s hf
  refine r_zast hX hn hM4 e_X3_meet_96 g3 ?_
  refine r_goto hX e_X3_meet_97 ?_
  exact r_ret hX hR e_X3_meet_143 hf
theorem t_X3_meet {l : Launch} {M : Mem} {a0 : Nat} {a1 a2 a3 : Int32} {res : Mem} (hf : f_X3_meet M a0 a1 a2 a3 = some res) : Cv l yX3_meet cX3_meet 6 none 2 46 shC nC (fun K B => [.ref (B + a0), .int a1, .int a2, .int a3]) M res := by
  refine met_v (own := RX3) (lo := fun K B => [some (.ref (B + a0)), some (.int a1), some (.int a2), some (.int a3), none, none]) (by decide +kernel) rfl shC_ok (fun _ _ => rfl) (fun _ _ => rfl) (fun _ _ => Nat.le_of_ble_eq_true rfl) (fun X hX hn hlx hR => ?_)
  refine r_aload_n (i := 0) hX e_X3_meet_0 rfl rfl ?_
  obtain ⟨g1, hf⟩ := gd_s hf
  obtain ⟨r2, hr2, hf⟩ := bd_s hf
  refine r_getR hX hn e_X3_meet_1 fl_3_67 rfl g1 hr2 ?_
  obtain ⟨g3, hf⟩ := gd_s hf
  obtain ⟨r4, hr4, hf⟩ := bd_s hf
  refine r_getR hX hn e_X3_meet_4 fl_3_118 rfl g3 hr4 ?_
  refine r_iload_n (i := 2) hX e_X3_meet_7 rfl rfl ?_
  obtain ⟨g5, hf⟩ := gd_s hf
  obtain ⟨r6, hr6, hf⟩ := bd_s hf
  refine r_aald hX hn e_X3_meet_8 g5 (Nat.le_of_ble_eq_true rfl) rfl rfl rfl hr6 ?_
  refine r_astore hX e_X3_meet_9 (Nat.le_of_ble_eq_true rfl) rfl ?_
  refine r_aload hX e_X3_meet_11 rfl ?_
  refine r_aload_n (i := 0) hX e_X3_meet_13 rfl rfl ?_
  refine r_getR hX hn e_X3_meet_14 fl_3_67 rfl g1 hr2 ?_
  obtain ⟨r7, hr7, hf⟩ := bd_s hf
  refine r_getR hX hn e_X3_meet_17 fl_3_104 rfl g3 hr7 ?_
  refine r_iload_n (i := 1) hX e_X3_meet_20 rfl rfl ?_
  obtain ⟨g8, hf⟩ := gd_s hf
  obtain ⟨r9, hr9, hf⟩ := bd_s hf
  refine r_aald hX hn e_X3_meet_21 g8 (Nat.le_of_ble_eq_true rfl) rfl rfl rfl hr9 ?_
  obtain ⟨g10, hf⟩ := gd_s hf
  refine r_getI hX hn e_X3_meet_22 fl_3_155 rfl g10 ?_
  obtain ⟨g11, hf⟩ := gd_s hf
  obtain ⟨v12, hv12, hf⟩ := bd_s hf
  refine r_cvi (As := fun K B => [.int ((gI M r9 2))]) hX hn (t_X1_wantOf hv12) e_X3_meet_25 cw_X1_wantOf cv_X1_wantOf lk_3_158 ⟨Nat.le_of_ble_eq_true rfl, Nat.le_of_ble_eq_true rfl⟩ (ci := 1) rfl rfl (Nat.le_of_ble_eq_true rfl) g11 rfl rfl (Nat.le_of_ble_eq_true rfl) ⟨Nat.zero_le _, Nat.zero_le _⟩ ?_
  refine r_istore hX e_X3_meet_28 (Nat.le_of_ble_eq_true rfl) rfl ?_
  refine r_aload_n (i := 0) hX e_X3_meet_30 rfl rfl ?_
  obtain ⟨r13, hr13, hf⟩ := bd_s hf
  refine r_getR hX hn e_X3_meet_31 fl_3_48 rfl g1 hr13 ?_
  refine r_iload_n (i := 1) hX e_X3_meet_34 rfl rfl ?_
  obtain ⟨g14, hf⟩ := gd_s hf
  refine r_iald hX hn e_X3_meet_35 g14 ?_
  refine r_if_eq hX e_X3_meet_36 (fun hc => ?_) (fun hc => ?_)
  · have hf := ite_t hf hc
    exact r_ret hX hR e_X3_meet_57 hf
  · have hf := ite_f hf hc
    refine r_iload hX e_X3_meet_39 rfl ?_
    refine r_iconst hX e_X3_meet_41 ic_m1 ?_
    refine r_icmp_eq hX e_X3_meet_42 (fun hc => ?_) (fun hc => ?_)
    · have hf := ite_t hf hc
      exact r_ret hX hR e_X3_meet_57 hf
    · have hf := ite_f hf hc
      refine r_aload_n (i := 0) hX e_X3_meet_45 rfl rfl ?_
      obtain ⟨r15, hr15, hf⟩ := bd_s hf
      refine r_getR hX hn e_X3_meet_46 fl_3_61 rfl g1 hr15 ?_
      refine r_iload_n (i := 2) hX e_X3_meet_49 rfl rfl ?_
      obtain ⟨g16, hf⟩ := gd_s hf
      obtain ⟨r17, hr17, hf⟩ := bd_s hf
      refine r_aald hX hn e_X3_meet_50 g16 (Nat.le_of_ble_eq_true rfl) rfl rfl rfl hr17 ?_
      refine r_iload hX e_X3_meet_51 rfl ?_
      obtain ⟨g18, hf⟩ := gd_s hf
      refine r_iald hX hn e_X3_meet_53 g18 ?_
      refine r_if_ne hX e_X3_meet_54 (fun hc => ?_) (fun hc => ?_)
      · have hf := ite_f hf hc
        refine r_aload_n (i := 0) hX e_X3_meet_58 rfl rfl ?_
        obtain ⟨r19, hr19, hf⟩ := bd_s hf
        refine r_getR hX hn e_X3_meet_59 fl_3_45 rfl g1 hr19 ?_
        refine r_iload_n (i := 1) hX e_X3_meet_62 rfl rfl ?_
        obtain ⟨g20, hf⟩ := gd_s hf
        refine r_iald hX hn e_X3_meet_63 g20 ?_
        refine r_aload hX e_X3_meet_64 rfl ?_
        obtain ⟨r21, hr21, hf⟩ := bd_s hf
        refine r_getR hX hn e_X3_meet_66 fl_3_161 rfl g11 hr21 ?_
        refine r_iload hX e_X3_meet_69 rfl ?_
        obtain ⟨g22, hf⟩ := gd_s hf
        refine r_iald hX hn e_X3_meet_71 g22 ?_
        refine r_icmp_gt hX e_X3_meet_72 (fun hc => ?_) (fun hc => ?_)
        · have hf := ite_t hf hc
          exact GoN.weak (t_X3_meet_90 hX hn hR M (a0) (a1) hf) rfl (sb_s (sb_s (sb_n (sb_n (sb_n (sb_n (sb_z _)))))))
        · have hf := ite_f hf hc
          refine r_aload_n (i := 0) hX e_X3_meet_75 rfl rfl ?_
          refine r_getR hX hn e_X3_meet_76 fl_3_45 rfl g1 hr19 ?_
          refine r_iload_n (i := 1) hX e_X3_meet_79 rfl rfl ?_
          refine r_iald hX hn e_X3_meet_80 g20 ?_
          refine r_aload_n (i := 0) hX e_X3_meet_81 rfl rfl ?_
          obtain ⟨r23, hr23, hf⟩ := bd_s hf
          refine r_getR hX hn e_X3_meet_82 fl_3_58 rfl g1 hr23 ?_
          refine r_iload_n (i := 2) hX e_X3_meet_85 rfl rfl ?_
          obtain ⟨g24, hf⟩ := gd_s hf
          refine r_iald hX hn e_X3_meet_86 g24 ?_
          refine r_icmp_le hX e_X3_meet_87 (fun hc => ?_) (fun hc => ?_)
          · have hf := ite_t hf hc
            refine r_aload_n (i := 0) hX e_X3_meet_100 rfl rfl ?_
            refine r_iload_n (i := 2) hX e_X3_meet_101 rfl rfl ?_
            refine r_aload_n (i := 0) hX e_X3_meet_102 rfl rfl ?_
            refine r_getR hX hn e_X3_meet_103 fl_3_45 rfl g1 hr19 ?_
            refine r_iload_n (i := 1) hX e_X3_meet_106 rfl rfl ?_
            refine r_iald hX hn e_X3_meet_107 g20 ?_
            refine r_aload hX e_X3_meet_108 rfl ?_
            refine r_getR hX hn e_X3_meet_110 fl_3_161 rfl g11 hr21 ?_
            refine r_iload hX e_X3_meet_113 rfl ?_
            refine r_iald hX hn e_X3_meet_115 g22 ?_
            refine r_iload_n (i := 3) hX e_X3_meet_116 rfl rfl ?_
            obtain ⟨v25, hv25, hf⟩ := bd_s hf
            refine r_cvi (As := fun K B => [.int (a2), .int ((gI M r19 (a1 : Int32).toNatClampNeg)), .int ((gI M r21 (v12 : Int32).toNatClampNeg)), .int (a3)]) hX hn (t_X3_wouldBuy hv25) e_X3_meet_117 cw_X3_wouldBuy cv_X3_wouldBuy lk_3_164 ⟨Nat.le_of_ble_eq_true rfl, Nat.le_of_ble_eq_true rfl⟩ (ci := 3) rfl rfl (Nat.le_of_ble_eq_true rfl) g1 rfl rfl (Nat.le_of_ble_eq_true rfl) ⟨Nat.zero_le _, Nat.zero_le _⟩ ?_
            refine r_if_eq hX e_X3_meet_120 (fun hc => ?_) (fun hc => ?_)
            · have hf := ite_t hf hc
              exact r_ret hX hR e_X3_meet_143 hf
            · have hf := ite_f hf hc
              refine r_aload_n (i := 0) hX e_X3_meet_123 rfl rfl ?_
              refine r_getR hX hn e_X3_meet_124 fl_3_61 rfl g1 hr15 ?_
              refine r_iload_n (i := 2) hX e_X3_meet_127 rfl rfl ?_
              refine r_aald hX hn e_X3_meet_128 g16 (Nat.le_of_ble_eq_true rfl) rfl rfl rfl hr17 ?_
              refine r_iload hX e_X3_meet_129 rfl ?_
              refine r_dup2_11 hX e_X3_meet_131 rfl rfl ?_
              refine r_iald hX hn e_X3_meet_132 g18 ?_
              refine r_iconst hX e_X3_meet_133 ic_1 ?_
              refine r_isub hX e_X3_meet_134 ?_
              obtain ⟨M26, hM26, hf⟩ := nx_s hf
              refine r_iast hX hn hM26 e_X3_meet_135 g18 ?_
              refine r_aload_n (i := 0) hX e_X3_meet_136 rfl rfl ?_
              refine r_iload_n (i := 1) hX e_X3_meet_137 rfl rfl ?_
              refine r_iload_n (i := 2) hX e_X3_meet_138 rfl rfl ?_
              refine r_iload_n (i := 3) hX e_X3_meet_139 rfl rfl ?_
              obtain ⟨u27, hu27, hf⟩ := bd_s hf
              refine r_cvv (As := fun K B => [.int (a1), .int (a2), .int (a3)]) hX hn (t_X3_sell hu27) e_X3_meet_140 cw_X3_sell cv_X3_sell lk_3_168 ⟨Nat.le_of_ble_eq_true rfl, Nat.le_of_ble_eq_true rfl⟩ (ci := 3) rfl rfl (Nat.le_of_ble_eq_true rfl) g1 rfl rfl (Nat.le_of_ble_eq_true rfl) ⟨Nat.zero_le _, Nat.zero_le _⟩ ?_
              exact r_ret hX hR e_X3_meet_143 hf
          · have hf := ite_f hf hc
            exact GoN.weak (t_X3_meet_90 hX hn hR M (a0) (a1) hf) rfl (sb_s (sb_s (sb_n (sb_n (sb_n (sb_n (sb_z _)))))))
      · have hf := ite_t hf hc
        exact r_ret hX hR e_X3_meet_57 hf
def s_X3_tradeAt_51 (k17 : Mem → Nat → Int32 → Int32 → Int32 → Int32 → Option (Mem)) (k51 : Mem → Nat → Int32 → Int32 → Int32 → Int32 → Int32 → Option (Mem)) (M : Mem) (x0 : Nat) (x1 : Int32) (x2 : Int32) (x3 : Int32) (x4 : Int32) (x5 : Int32) : Option (Mem) :=
  gd (oB shC x0 3) <| bd (gR M x0 10) fun r2 => gd (oB shC r2 4) <| if (gI M r2 5) ≤ x5 then k17 M (x0) (x1) (x2) (x3) ((x4 + 1)) else if ((x3 >>> (x5 &&& 31)) &&& 1) = 1 then bd (f_X3_meet M x0 x4 x5 x2) fun u4 => k51 u4 (x0) (x1) (x2) (x3) (x4) ((x5 + 1)) else k51 M (x0) (x1) (x2) (x3) (x4) ((x5 + 1))
def f_X3_tradeAt_51 (k17 : Mem → Nat → Int32 → Int32 → Int32 → Int32 → Option (Mem)) : Nat → Mem → Nat → Int32 → Int32 → Int32 → Int32 → Int32 → Option (Mem)
  | 0 => fun _ _ _ _ _ _ _ => none
  | n + 1 => fun y0 y1 y2 y3 y4 y5 y6 => s_X3_tradeAt_51 k17 (f_X3_tradeAt_51 k17 n) y0 y1 y2 y3 y4 y5 y6
def s_X3_tradeAt_17 (k17 : Mem → Nat → Int32 → Int32 → Int32 → Int32 → Option (Mem)) (M : Mem) (x0 : Nat) (x1 : Int32) (x2 : Int32) (x3 : Int32) (x4 : Int32) : Option (Mem) :=
  gd (oB shC x0 3) <| bd (gR M x0 10) fun r2 => gd (oB shC r2 4) <| if (gI M r2 4) ≤ x4 then some M else bd (gR M x0 0) fun r4 => gd (oB shC r4 2) <| bd (gR M r4 1) fun r6 => gd (aB shC r6 9 x4) <| bd (gR M r6 (x4 : Int32).toNatClampNeg) fun r8 => gd (aB shC r8 0 x2) <| if (gI M r8 (x2 : Int32).toNatClampNeg) = x1 then f_X3_tradeAt_51 k17 FU M (x0) (x1) (x2) (x3) (x4) (0) else k17 M (x0) (x1) (x2) (x3) ((x4 + 1))
def f_X3_tradeAt_17  : Nat → Mem → Nat → Int32 → Int32 → Int32 → Int32 → Option (Mem)
  | 0 => fun _ _ _ _ _ _ => none
  | n + 1 => fun y0 y1 y2 y3 y4 y5 => s_X3_tradeAt_17  (f_X3_tradeAt_17  n) y0 y1 y2 y3 y4 y5
def f_X3_tradeAt (M : Mem) (a0 : Nat) (a1 : Int32) (a2 : Int32) : Option (Mem) :=
  gd (oB shC a0 3) <| bd (gR M a0 10) fun r2 => gd (oB shC r2 4) <| bd (f_X4_buyersAt M r2 a1) fun v4 => if v4 = 0 then some M else f_X3_tradeAt_17 FU M (a0) (a1) (a2) (v4) (0)
theorem t_s_X3_tradeAt_51 {X : Cx} {res : Mem} {k17 : Mem → Nat → Int32 → Int32 → Int32 → Int32 → Option (Mem)} {k51 : Mem → Nat → Int32 → Int32 → Int32 → Int32 → Int32 → Option (Mem)} (hX : OkX X cX3_tradeAt RX3 3 71) (hn : Fit X shC nC) (hR : RetV X shC nC res) (hk17 : ∀ M x0 x1 x2 x3 x4, k17 M x0 x1 x2 x3 x4 = some res → GoN X shC nC 0 0 M 17 [some (.ref (X.B + x0)), some (.int (x1)), some (.int (x2)), some (.int (x3)), some (.int (x4)), none] []) (hk51 : ∀ M x0 x1 x2 x3 x4 x5, k51 M x0 x1 x2 x3 x4 x5 = some res → GoN X shC nC 0 0 M 51 [some (.ref (X.B + x0)), some (.int (x1)), some (.int (x2)), some (.int (x3)), some (.int (x4)), some (.int (x5))] []) (M : Mem) (x0 : Nat) (x1 : Int32) (x2 : Int32) (x3 : Int32) (x4 : Int32) (x5 : Int32) (hf : s_X3_tradeAt_51 k17 k51 M x0 x1 x2 x3 x4 x5 = some res) : GoN X shC nC 0 0 M 51 [some (.ref (X.B + x0)), some (.int (x1)), some (.int (x2)), some (.int (x3)), some (.int (x4)), some (.int (x5))] [] := by
  refine r_iload hX e_X3_tradeAt_51 rfl ?_
  refine r_aload_n (i := 0) hX e_X3_tradeAt_53 rfl rfl ?_
  obtain ⟨g1, hf⟩ := gd_s hf
  obtain ⟨r2, hr2, hf⟩ := bd_s hf
  refine r_getR hX hn e_X3_tradeAt_54 fl_3_67 rfl g1 hr2 ?_
  obtain ⟨g3, hf⟩ := gd_s hf
  refine r_getI hX hn e_X3_tradeAt_57 fl_3_115 rfl g3 ?_
  refine r_icmp_ge hX e_X3_tradeAt_60 (fun hc => ?_) (fun hc => ?_)
  · have hf := ite_t hf hc
    refine r_iinc (v := x4 + 1) hX e_X3_tradeAt_88 rfl (ii_s ic_1) (Nat.le_of_ble_eq_true rfl) rfl ?_
    refine r_goto hX e_X3_tradeAt_91 ?_
    exact GoN.weak (hk17 M (x0) (x1) (x2) (x3) ((x4 + 1)) hf) rfl (sb_s (sb_s (sb_s (sb_s (sb_s (sb_n (sb_z _)))))))
  · have hf := ite_f hf hc
    refine r_iload_n (i := 3) hX e_X3_tradeAt_63 rfl rfl ?_
    refine r_iload hX e_X3_tradeAt_64 rfl ?_
    refine r_ishr hX e_X3_tradeAt_66 ?_
    refine r_iconst hX e_X3_tradeAt_67 ic_1 ?_
    refine r_iand hX e_X3_tradeAt_68 ?_
    refine r_iconst hX e_X3_tradeAt_69 ic_1 ?_
    refine r_icmp_ne hX e_X3_tradeAt_70 (fun hc => ?_) (fun hc => ?_)
    · have hf := ite_f hf hc
      refine r_iinc (v := x5 + 1) hX e_X3_tradeAt_82 rfl (ii_s ic_1) (Nat.le_of_ble_eq_true rfl) rfl ?_
      refine r_goto hX e_X3_tradeAt_85 ?_
      exact GoN.weak (hk51 M (x0) (x1) (x2) (x3) (x4) ((x5 + 1)) hf) rfl (sb_s (sb_s (sb_s (sb_s (sb_s (sb_s (sb_z _)))))))
    · have hf := ite_t hf hc
      refine r_aload_n (i := 0) hX e_X3_tradeAt_73 rfl rfl ?_
      refine r_iload hX e_X3_tradeAt_74 rfl ?_
      refine r_iload hX e_X3_tradeAt_76 rfl ?_
      refine r_iload_n (i := 2) hX e_X3_tradeAt_78 rfl rfl ?_
      obtain ⟨u4, hu4, hf⟩ := bd_s hf
      refine r_cvv (As := fun K B => [.int (x4), .int (x5), .int (x2)]) hX hn (t_X3_meet hu4) e_X3_tradeAt_79 cw_X3_meet cv_X3_meet lk_3_151 ⟨Nat.le_of_ble_eq_true rfl, Nat.le_of_ble_eq_true rfl⟩ (ci := 3) rfl rfl (Nat.le_of_ble_eq_true rfl) g1 rfl rfl (Nat.le_of_ble_eq_true rfl) ⟨Nat.zero_le _, Nat.zero_le _⟩ ?_
      refine r_iinc (v := x5 + 1) hX e_X3_tradeAt_82 rfl (ii_s ic_1) (Nat.le_of_ble_eq_true rfl) rfl ?_
      refine r_goto hX e_X3_tradeAt_85 ?_
      exact GoN.weak (hk51 u4 (x0) (x1) (x2) (x3) (x4) ((x5 + 1)) hf) rfl (sb_s (sb_s (sb_s (sb_s (sb_s (sb_s (sb_z _)))))))
theorem t_X3_tradeAt_51 {X : Cx} {res : Mem} {k17 : Mem → Nat → Int32 → Int32 → Int32 → Int32 → Option (Mem)} (hX : OkX X cX3_tradeAt RX3 3 71) (hn : Fit X shC nC) (hR : RetV X shC nC res) (hk17 : ∀ M x0 x1 x2 x3 x4, k17 M x0 x1 x2 x3 x4 = some res → GoN X shC nC 0 0 M 17 [some (.ref (X.B + x0)), some (.int (x1)), some (.int (x2)), some (.int (x3)), some (.int (x4)), none] []) : ∀ (n : Nat) (M : Mem) (x0 : Nat) (x1 : Int32) (x2 : Int32) (x3 : Int32) (x4 : Int32) (x5 : Int32),  f_X3_tradeAt_51 k17 n M x0 x1 x2 x3 x4 x5 = some res → GoN X shC nC 0 0 M 51 [some (.ref (X.B + x0)), some (.int (x1)), some (.int (x2)), some (.int (x3)), some (.int (x4)), some (.int (x5))] [] := by
  intro n
  induction n with
  | zero => intro M x0 x1 x2 x3 x4 x5 hf; cases hf
  | succ n ih => intro M x0 x1 x2 x3 x4 x5 hf; exact t_s_X3_tradeAt_51 hX hn hR hk17 ih M x0 x1 x2 x3 x4 x5 hf
theorem t_s_X3_tradeAt_17 {X : Cx} {res : Mem} {k17 : Mem → Nat → Int32 → Int32 → Int32 → Int32 → Option (Mem)} (hX : OkX X cX3_tradeAt RX3 3 71) (hn : Fit X shC nC) (hR : RetV X shC nC res) (hk17 : ∀ M x0 x1 x2 x3 x4, k17 M x0 x1 x2 x3 x4 = some res → GoN X shC nC 0 0 M 17 [some (.ref (X.B + x0)), some (.int (x1)), some (.int (x2)), some (.int (x3)), some (.int (x4)), none] []) (M : Mem) (x0 : Nat) (x1 : Int32) (x2 : Int32) (x3 : Int32) (x4 : Int32) (hf : s_X3_tradeAt_17 k17 M x0 x1 x2 x3 x4 = some res) : GoN X shC nC 0 0 M 17 [some (.ref (X.B + x0)), some (.int (x1)), some (.int (x2)), some (.int (x3)), some (.int (x4)), none] [] := by
  refine r_iload hX e_X3_tradeAt_17 rfl ?_
  refine r_aload_n (i := 0) hX e_X3_tradeAt_19 rfl rfl ?_
  obtain ⟨g1, hf⟩ := gd_s hf
  obtain ⟨r2, hr2, hf⟩ := bd_s hf
  refine r_getR hX hn e_X3_tradeAt_20 fl_3_67 rfl g1 hr2 ?_
  obtain ⟨g3, hf⟩ := gd_s hf
  refine r_getI hX hn e_X3_tradeAt_23 fl_3_101 rfl g3 ?_
  refine r_icmp_ge hX e_X3_tradeAt_26 (fun hc => ?_) (fun hc => ?_)
  · have hf := ite_t hf hc
    exact r_ret hX hR e_X3_tradeAt_94 hf
  · have hf := ite_f hf hc
    refine r_aload_n (i := 0) hX e_X3_tradeAt_29 rfl rfl ?_
    obtain ⟨r4, hr4, hf⟩ := bd_s hf
    refine r_getR hX hn e_X3_tradeAt_30 fl_3_12 rfl g1 hr4 ?_
    obtain ⟨g5, hf⟩ := gd_s hf
    obtain ⟨r6, hr6, hf⟩ := bd_s hf
    refine r_getR hX hn e_X3_tradeAt_33 fl_3_148 rfl g5 hr6 ?_
    refine r_iload hX e_X3_tradeAt_36 rfl ?_
    obtain ⟨g7, hf⟩ := gd_s hf
    obtain ⟨r8, hr8, hf⟩ := bd_s hf
    refine r_aald hX hn e_X3_tradeAt_38 g7 (Nat.le_of_ble_eq_true rfl) rfl rfl rfl hr8 ?_
    refine r_iload_n (i := 2) hX e_X3_tradeAt_39 rfl rfl ?_
    obtain ⟨g9, hf⟩ := gd_s hf
    refine r_iald hX hn e_X3_tradeAt_40 g9 ?_
    refine r_iload_n (i := 1) hX e_X3_tradeAt_41 rfl rfl ?_
    refine r_icmp_eq hX e_X3_tradeAt_42 (fun hc => ?_) (fun hc => ?_)
    · have hf := ite_t hf hc
      refine r_iconst hX e_X3_tradeAt_48 ic_0 ?_
      refine r_istore hX e_X3_tradeAt_49 (Nat.le_of_ble_eq_true rfl) rfl ?_
      exact GoN.weak (t_X3_tradeAt_51 hX hn hR hk17 FU M (x0) (x1) (x2) (x3) (x4) (0) hf) rfl (sb_s (sb_s (sb_s (sb_s (sb_s (sb_s (sb_z _)))))))
    · have hf := ite_f hf hc
      refine r_goto hX e_X3_tradeAt_45 ?_
      refine r_iinc (v := x4 + 1) hX e_X3_tradeAt_88 rfl (ii_s ic_1) (Nat.le_of_ble_eq_true rfl) rfl ?_
      refine r_goto hX e_X3_tradeAt_91 ?_
      exact GoN.weak (hk17 M (x0) (x1) (x2) (x3) ((x4 + 1)) hf) rfl (sb_s (sb_s (sb_s (sb_s (sb_s (sb_n (sb_z _)))))))
theorem t_X3_tradeAt_17 {X : Cx} {res : Mem}  (hX : OkX X cX3_tradeAt RX3 3 71) (hn : Fit X shC nC) (hR : RetV X shC nC res)  : ∀ (n : Nat) (M : Mem) (x0 : Nat) (x1 : Int32) (x2 : Int32) (x3 : Int32) (x4 : Int32),  f_X3_tradeAt_17  n M x0 x1 x2 x3 x4 = some res → GoN X shC nC 0 0 M 17 [some (.ref (X.B + x0)), some (.int (x1)), some (.int (x2)), some (.int (x3)), some (.int (x4)), none] [] := by
  intro n
  induction n with
  | zero => intro M x0 x1 x2 x3 x4 hf; cases hf
  | succ n ih => intro M x0 x1 x2 x3 x4 hf; exact t_s_X3_tradeAt_17 hX hn hR  ih M x0 x1 x2 x3 x4 hf
theorem t_X3_tradeAt {l : Launch} {M : Mem} {a0 : Nat} {a1 a2 : Int32} {res : Mem} (hf : f_X3_tradeAt M a0 a1 a2 = some res) : Cv l yX3_tradeAt cX3_tradeAt 6 none 3 71 shC nC (fun K B => [.ref (B + a0), .int a1, .int a2]) M res := by
  refine met_v (own := RX3) (lo := fun K B => [some (.ref (B + a0)), some (.int a1), some (.int a2), none, none, none]) (by decide +kernel) rfl shC_ok (fun _ _ => rfl) (fun _ _ => rfl) (fun _ _ => Nat.le_of_ble_eq_true rfl) (fun X hX hn hlx hR => ?_)
  refine r_aload_n (i := 0) hX e_X3_tradeAt_0 rfl rfl ?_
  obtain ⟨g1, hf⟩ := gd_s hf
  obtain ⟨r2, hr2, hf⟩ := bd_s hf
  refine r_getR hX hn e_X3_tradeAt_1 fl_3_67 rfl g1 hr2 ?_
  refine r_iload_n (i := 1) hX e_X3_tradeAt_4 rfl rfl ?_
  obtain ⟨g3, hf⟩ := gd_s hf
  obtain ⟨v4, hv4, hf⟩ := bd_s hf
  refine r_cvi (As := fun K B => [.int (a1)]) hX hn (t_X4_buyersAt hv4) e_X3_tradeAt_5 cw_X4_buyersAt cv_X4_buyersAt lk_3_144 ⟨Nat.le_of_ble_eq_true rfl, Nat.le_of_ble_eq_true rfl⟩ (ci := 4) rfl rfl (Nat.le_of_ble_eq_true rfl) g3 rfl rfl (Nat.le_of_ble_eq_true rfl) ⟨Nat.zero_le _, Nat.zero_le _⟩ ?_
  refine r_istore_n (i := 3) hX e_X3_tradeAt_8 rfl (Nat.le_of_ble_eq_true rfl) rfl ?_
  refine r_iload_n (i := 3) hX e_X3_tradeAt_9 rfl rfl ?_
  refine r_if_ne hX e_X3_tradeAt_10 (fun hc => ?_) (fun hc => ?_)
  · have hf := ite_f hf hc
    refine r_iconst hX e_X3_tradeAt_14 ic_0 ?_
    refine r_istore hX e_X3_tradeAt_15 (Nat.le_of_ble_eq_true rfl) rfl ?_
    exact GoN.weak (t_X3_tradeAt_17 hX hn hR FU M (a0) (a1) (a2) (v4) (0) hf) rfl (sb_s (sb_s (sb_s (sb_s (sb_s (sb_n (sb_z _)))))))
  · have hf := ite_t hf hc
    exact r_ret hX hR e_X3_tradeAt_13 hf
def f_X20_min (M : Mem) (a0 : Int32) (a1 : Int32) : Option (Int32) :=
  if a1 < a0 then some a1 else some a0
theorem t_X20_min {l : Launch} {M : Mem} {a0 a1 : Int32} {res : Int32} (hf : f_X20_min M a0 a1 = some res) : Ci l yX20_min cX20_min 2 (some .int) 0 0 shC nC (fun K B => [.int a0, .int a1]) M (M, res) := by
  refine met_i (own := RX20) (lo := fun K B => [some (.int a0), some (.int a1)]) (by decide +kernel) rfl shC_ok (fun _ _ => rfl) (fun _ _ => rfl) (fun _ _ => Nat.le_of_ble_eq_true rfl) (fun X hX hn hlx hR => ?_)
  refine r_iload_n (i := 0) hX e_X20_min_0 rfl rfl ?_
  refine r_iload_n (i := 1) hX e_X20_min_1 rfl rfl ?_
  refine r_icmp_gt hX e_X20_min_2 (fun hc => ?_) (fun hc => ?_)
  · have hf := ite_t hf hc
    refine r_iload_n (i := 1) hX e_X20_min_9 rfl rfl ?_
    exact r_iret hX hR e_X20_min_10 (ro_s hf)
  · have hf := ite_f hf hc
    refine r_iload_n (i := 0) hX e_X20_min_5 rfl rfl ?_
    refine r_goto hX e_X20_min_6 ?_
    exact r_iret hX hR e_X20_min_10 (ro_s hf)
def f_X3_learn (M : Mem) (a0 : Nat) (a1 : Int32) (a2 : Int32) : Option (Mem) :=
  gd (oB shC a0 3) <| bd (gR M a0 13) fun r2 => gd (aB shC r2 2 a1) <| if (gI M r2 (a1 : Int32).toNatClampNeg) = 0 then bd (gR M a0 14) fun r4 => gd (aB shC r4 2 a1) <| if (gI M r4 (a1 : Int32).toNatClampNeg) = 0 then some M else bd (gR M a0 11) fun r6 => gd (aB shC r6 0 a1) <| bd (f_X20_max M 0 ((gI M r6 (a1 : Int32).toNatClampNeg) - a2)) fun v8 => nx (sI M r6 (a1 : Int32).toNatClampNeg v8) fun M9 => some M9 else bd (gR M a0 11) fun r10 => gd (aB shC r10 0 a1) <| bd (f_X20_min M 99 ((gI M r10 (a1 : Int32).toNatClampNeg) + a2)) fun v12 => nx (sI M r10 (a1 : Int32).toNatClampNeg v12) fun M13 => some M13
theorem t_X3_learn {l : Launch} {M : Mem} {a0 : Nat} {a1 a2 : Int32} {res : Mem} (hf : f_X3_learn M a0 a1 a2 = some res) : Cv l yX3_learn cX3_learn 3 none 1 21 shC nC (fun K B => [.ref (B + a0), .int a1, .int a2]) M res := by
  refine met_v (own := RX3) (lo := fun K B => [some (.ref (B + a0)), some (.int a1), some (.int a2)]) (by decide +kernel) rfl shC_ok (fun _ _ => rfl) (fun _ _ => rfl) (fun _ _ => Nat.le_of_ble_eq_true rfl) (fun X hX hn hlx hR => ?_)
  refine r_aload_n (i := 0) hX e_X3_learn_0 rfl rfl ?_
  obtain ⟨g1, hf⟩ := gd_s hf
  obtain ⟨r2, hr2, hf⟩ := bd_s hf
  refine r_getR hX hn e_X3_learn_1 fl_3_51 rfl g1 hr2 ?_
  refine r_iload_n (i := 1) hX e_X3_learn_4 rfl rfl ?_
  obtain ⟨g3, hf⟩ := gd_s hf
  refine r_zald hX hn e_X3_learn_5 g3 ?_
  refine r_if_eq hX e_X3_learn_6 (fun hc => ?_) (fun hc => ?_)
  · have hf := ite_t hf hc
    refine r_aload_n (i := 0) hX e_X3_learn_31 rfl rfl ?_
    obtain ⟨r4, hr4, hf⟩ := bd_s hf
    refine r_getR hX hn e_X3_learn_32 fl_3_55 rfl g1 hr4 ?_
    refine r_iload_n (i := 1) hX e_X3_learn_35 rfl rfl ?_
    obtain ⟨g5, hf⟩ := gd_s hf
    refine r_zald hX hn e_X3_learn_36 g5 ?_
    refine r_if_eq hX e_X3_learn_37 (fun hc => ?_) (fun hc => ?_)
    · have hf := ite_t hf hc
      exact r_ret hX hR e_X3_learn_58 hf
    · have hf := ite_f hf hc
      refine r_aload_n (i := 0) hX e_X3_learn_40 rfl rfl ?_
      obtain ⟨r6, hr6, hf⟩ := bd_s hf
      refine r_getR hX hn e_X3_learn_41 fl_3_45 rfl g1 hr6 ?_
      refine r_iload_n (i := 1) hX e_X3_learn_44 rfl rfl ?_
      refine r_iconst hX e_X3_learn_45 ic_0 ?_
      refine r_aload_n (i := 0) hX e_X3_learn_46 rfl rfl ?_
      refine r_getR hX hn e_X3_learn_47 fl_3_45 rfl g1 hr6 ?_
      refine r_iload_n (i := 1) hX e_X3_learn_50 rfl rfl ?_
      obtain ⟨g7, hf⟩ := gd_s hf
      refine r_iald hX hn e_X3_learn_51 g7 ?_
      refine r_iload_n (i := 2) hX e_X3_learn_52 rfl rfl ?_
      refine r_isub hX e_X3_learn_53 ?_
      obtain ⟨v8, hv8, hf⟩ := bd_s hf
      refine r_csi (As := fun K B => [.int (0), .int (((gI M r6 (a1 : Int32).toNatClampNeg) - a2))]) hX hn (t_X20_max hv8) e_X3_learn_54 cw_X20_max cv_X20_max lk_3_189 ⟨Nat.le_of_ble_eq_true rfl, Nat.le_of_ble_eq_true rfl⟩ rfl rfl (Nat.le_of_ble_eq_true rfl) ⟨Nat.zero_le _, Nat.zero_le _⟩ ?_
      obtain ⟨M9, hM9, hf⟩ := nx_s hf
      refine r_iast hX hn hM9 e_X3_learn_57 g7 ?_
      exact r_ret hX hR e_X3_learn_58 hf
  · have hf := ite_f hf hc
    refine r_aload_n (i := 0) hX e_X3_learn_9 rfl rfl ?_
    obtain ⟨r10, hr10, hf⟩ := bd_s hf
    refine r_getR hX hn e_X3_learn_10 fl_3_45 rfl g1 hr10 ?_
    refine r_iload_n (i := 1) hX e_X3_learn_13 rfl rfl ?_
    refine r_bipush hX e_X3_learn_14 bc_99 ?_
    refine r_aload_n (i := 0) hX e_X3_learn_16 rfl rfl ?_
    refine r_getR hX hn e_X3_learn_17 fl_3_45 rfl g1 hr10 ?_
    refine r_iload_n (i := 1) hX e_X3_learn_20 rfl rfl ?_
    obtain ⟨g11, hf⟩ := gd_s hf
    refine r_iald hX hn e_X3_learn_21 g11 ?_
    refine r_iload_n (i := 2) hX e_X3_learn_22 rfl rfl ?_
    refine r_iadd hX e_X3_learn_23 ?_
    obtain ⟨v12, hv12, hf⟩ := bd_s hf
    refine r_csi (As := fun K B => [.int (99), .int (((gI M r10 (a1 : Int32).toNatClampNeg) + a2))]) hX hn (t_X20_min hv12) e_X3_learn_24 cw_X20_min cv_X20_min lk_3_183 ⟨Nat.le_of_ble_eq_true rfl, Nat.le_of_ble_eq_true rfl⟩ rfl rfl (Nat.le_of_ble_eq_true rfl) ⟨Nat.zero_le _, Nat.zero_le _⟩ ?_
    obtain ⟨M13, hM13, hf⟩ := nx_s hf
    refine r_iast hX hn hM13 e_X3_learn_27 g11 ?_
    refine r_goto hX e_X3_learn_28 ?_
    exact r_ret hX hR e_X3_learn_58 hf
def s_X3_closeMinute_68 (k68 : Mem → Nat → Int32 → Int32 → Option (Mem)) (M : Mem) (x0 : Nat) (x1 : Int32) (x2 : Int32) : Option (Mem) :=
  gd (oB shC x0 3) <| bd (gR M x0 10) fun r2 => gd (oB shC r2 4) <| if (gI M r2 5) ≤ x2 then some M else bd (gR M x0 3) fun r4 => gd (aB shC r4 9 x2) <| bd (gR M r4 (x2 : Int32).toNatClampNeg) fun r6 => bd (gR M x0 15) fun r7 => gd (aB shC r7 0 x2) <| gd (aB shC r6 0 x1) <| nx (sI M r6 (x1 : Int32).toNatClampNeg (gI M r7 (x2 : Int32).toNatClampNeg)) fun M10 => k68 M10 (x0) (x1) ((x2 + 1))
def f_X3_closeMinute_68  : Nat → Mem → Nat → Int32 → Int32 → Option (Mem)
  | 0 => fun _ _ _ _ => none
  | n + 1 => fun y0 y1 y2 y3 => s_X3_closeMinute_68  (f_X3_closeMinute_68  n) y0 y1 y2 y3
def f_X3_closeMinute_46 (k2 : Mem → Nat → Int32 → Int32 → Option (Mem)) (M : Mem) (x0 : Nat) (x1 : Int32) (x2 : Int32) : Option (Mem) :=
  gd (oB shC x0 3) <| bd (gR M x0 2) fun r2 => gd (aB shC r2 9 x2) <| bd (gR M r2 (x2 : Int32).toNatClampNeg) fun r4 => bd (gR M x0 12) fun r5 => gd (aB shC r5 0 x2) <| gd (aB shC r4 0 x1) <| nx (sI M r4 (x1 : Int32).toNatClampNeg (gI M r5 (x2 : Int32).toNatClampNeg)) fun M8 => k2 M8 (x0) (x1) ((x2 + 1))
def s_X3_closeMinute_2 (k2 : Mem → Nat → Int32 → Int32 → Option (Mem)) (M : Mem) (x0 : Nat) (x1 : Int32) (x2 : Int32) : Option (Mem) :=
  gd (oB shC x0 3) <| bd (gR M x0 10) fun r2 => gd (oB shC r2 4) <| if (gI M r2 4) ≤ x2 then f_X3_closeMinute_68 FU M (x0) (x1) (0) else bd (gR M r2 7) fun r4 => gd (aB shC r4 5 x2) <| bd (gR M r4 (x2 : Int32).toNatClampNeg) fun r6 => gd (oB shC r6 9) <| if (gI M r6 5) = 2 then bd (f_X3_learn M x0 x2 (gI M r6 6)) fun u8 => f_X3_closeMinute_46 k2 u8 (x0) (x1) (x2) else f_X3_closeMinute_46 k2 M (x0) (x1) (x2)
def f_X3_closeMinute_2  : Nat → Mem → Nat → Int32 → Int32 → Option (Mem)
  | 0 => fun _ _ _ _ => none
  | n + 1 => fun y0 y1 y2 y3 => s_X3_closeMinute_2  (f_X3_closeMinute_2  n) y0 y1 y2 y3
def f_X3_closeMinute (M : Mem) (a0 : Nat) (a1 : Int32) : Option (Mem) :=
  f_X3_closeMinute_2 FU M (a0) (a1) (0)
theorem t_s_X3_closeMinute_68 {X : Cx} {res : Mem} {k68 : Mem → Nat → Int32 → Int32 → Option (Mem)} (hX : OkX X cX3_closeMinute RX3 2 43) (hn : Fit X shC nC) (hR : RetV X shC nC res) (hk68 : ∀ M x0 x1 x2, k68 M x0 x1 x2 = some res → GoN X shC nC 0 0 M 68 [some (.ref (X.B + x0)), some (.int (x1)), some (.int (x2))] []) (M : Mem) (x0 : Nat) (x1 : Int32) (x2 : Int32) (hf : s_X3_closeMinute_68 k68 M x0 x1 x2 = some res) : GoN X shC nC 0 0 M 68 [some (.ref (X.B + x0)), some (.int (x1)), some (.int (x2))] [] := by
  refine r_iload_n (i := 2) hX e_X3_closeMinute_68 rfl rfl ?_
  refine r_aload_n (i := 0) hX e_X3_closeMinute_69 rfl rfl ?_
  obtain ⟨g1, hf⟩ := gd_s hf
  obtain ⟨r2, hr2, hf⟩ := bd_s hf
  refine r_getR hX hn e_X3_closeMinute_70 fl_3_67 rfl g1 hr2 ?_
  obtain ⟨g3, hf⟩ := gd_s hf
  refine r_getI hX hn e_X3_closeMinute_73 fl_3_115 rfl g3 ?_
  refine r_icmp_ge hX e_X3_closeMinute_76 (fun hc => ?_) (fun hc => ?_)
  · have hf := ite_t hf hc
    exact r_ret hX hR e_X3_closeMinute_99 hf
  · have hf := ite_f hf hc
    refine r_aload_n (i := 0) hX e_X3_closeMinute_79 rfl rfl ?_
    obtain ⟨r4, hr4, hf⟩ := bd_s hf
    refine r_getR hX hn e_X3_closeMinute_80 fl_3_26 rfl g1 hr4 ?_
    refine r_iload_n (i := 2) hX e_X3_closeMinute_83 rfl rfl ?_
    obtain ⟨g5, hf⟩ := gd_s hf
    obtain ⟨r6, hr6, hf⟩ := bd_s hf
    refine r_aald hX hn e_X3_closeMinute_84 g5 (Nat.le_of_ble_eq_true rfl) rfl rfl rfl hr6 ?_
    refine r_iload_n (i := 1) hX e_X3_closeMinute_85 rfl rfl ?_
    refine r_aload_n (i := 0) hX e_X3_closeMinute_86 rfl rfl ?_
    obtain ⟨r7, hr7, hf⟩ := bd_s hf
    refine r_getR hX hn e_X3_closeMinute_87 fl_3_58 rfl g1 hr7 ?_
    refine r_iload_n (i := 2) hX e_X3_closeMinute_90 rfl rfl ?_
    obtain ⟨g8, hf⟩ := gd_s hf
    refine r_iald hX hn e_X3_closeMinute_91 g8 ?_
    obtain ⟨g9, hf⟩ := gd_s hf
    obtain ⟨M10, hM10, hf⟩ := nx_s hf
    refine r_iast hX hn hM10 e_X3_closeMinute_92 g9 ?_
    refine r_iinc (v := x2 + 1) hX e_X3_closeMinute_93 rfl (ii_s ic_1) (Nat.le_of_ble_eq_true rfl) rfl ?_
    refine r_goto hX e_X3_closeMinute_96 ?_
    exact GoN.weak (hk68 M10 (x0) (x1) ((x2 + 1)) hf) rfl (sb_s (sb_s (sb_s (sb_z _))))
theorem t_X3_closeMinute_68 {X : Cx} {res : Mem}  (hX : OkX X cX3_closeMinute RX3 2 43) (hn : Fit X shC nC) (hR : RetV X shC nC res)  : ∀ (n : Nat) (M : Mem) (x0 : Nat) (x1 : Int32) (x2 : Int32),  f_X3_closeMinute_68  n M x0 x1 x2 = some res → GoN X shC nC 0 0 M 68 [some (.ref (X.B + x0)), some (.int (x1)), some (.int (x2))] [] := by
  intro n
  induction n with
  | zero => intro M x0 x1 x2 hf; cases hf
  | succ n ih => intro M x0 x1 x2 hf; exact t_s_X3_closeMinute_68 hX hn hR  ih M x0 x1 x2 hf
theorem t_X3_closeMinute_46 {X : Cx} {res : Mem} {k2 : Mem → Nat → Int32 → Int32 → Option (Mem)} (hX : OkX X cX3_closeMinute RX3 2 43) (hn : Fit X shC nC) (hR : RetV X shC nC res) (hk2 : ∀ M x0 x1 x2, k2 M x0 x1 x2 = some res → GoN X shC nC 0 0 M 2 [some (.ref (X.B + x0)), some (.int (x1)), some (.int (x2))] []) (M : Mem) (x0 : Nat) (x1 : Int32) (x2 : Int32) (hf : f_X3_closeMinute_46 k2 M x0 x1 x2 = some res) : GoN X shC nC 0 0 M 46 [some (.ref (X.B + x0)), some (.int (x1)), some (.int (x2))] [] := by
  refine r_aload_n (i := 0) hX e_X3_closeMinute_46 rfl rfl ?_
  obtain ⟨g1, hf⟩ := gd_s hf
  obtain ⟨r2, hr2, hf⟩ := bd_s hf
  refine r_getR hX hn e_X3_closeMinute_47 fl_3_23 rfl g1 hr2 ?_
  refine r_iload_n (i := 2) hX e_X3_closeMinute_50 rfl rfl ?_
  obtain ⟨g3, hf⟩ := gd_s hf
  obtain ⟨r4, hr4, hf⟩ := bd_s hf
  refine r_aald hX hn e_X3_closeMinute_51 g3 (Nat.le_of_ble_eq_true rfl) rfl rfl rfl hr4 ?_
  refine r_iload_n (i := 1) hX e_X3_closeMinute_52 rfl rfl ?_
  refine r_aload_n (i := 0) hX e_X3_closeMinute_53 rfl rfl ?_
  obtain ⟨r5, hr5, hf⟩ := bd_s hf
  refine r_getR hX hn e_X3_closeMinute_54 fl_3_48 rfl g1 hr5 ?_
  refine r_iload_n (i := 2) hX e_X3_closeMinute_57 rfl rfl ?_
  obtain ⟨g6, hf⟩ := gd_s hf
  refine r_iald hX hn e_X3_closeMinute_58 g6 ?_
  obtain ⟨g7, hf⟩ := gd_s hf
  obtain ⟨M8, hM8, hf⟩ := nx_s hf
  refine r_iast hX hn hM8 e_X3_closeMinute_59 g7 ?_
  refine r_iinc (v := x2 + 1) hX e_X3_closeMinute_60 rfl (ii_s ic_1) (Nat.le_of_ble_eq_true rfl) rfl ?_
  refine r_goto hX e_X3_closeMinute_63 ?_
  exact GoN.weak (hk2 M8 (x0) (x1) ((x2 + 1)) hf) rfl (sb_s (sb_s (sb_s (sb_z _))))
theorem t_s_X3_closeMinute_2 {X : Cx} {res : Mem} {k2 : Mem → Nat → Int32 → Int32 → Option (Mem)} (hX : OkX X cX3_closeMinute RX3 2 43) (hn : Fit X shC nC) (hR : RetV X shC nC res) (hk2 : ∀ M x0 x1 x2, k2 M x0 x1 x2 = some res → GoN X shC nC 0 0 M 2 [some (.ref (X.B + x0)), some (.int (x1)), some (.int (x2))] []) (M : Mem) (x0 : Nat) (x1 : Int32) (x2 : Int32) (hf : s_X3_closeMinute_2 k2 M x0 x1 x2 = some res) : GoN X shC nC 0 0 M 2 [some (.ref (X.B + x0)), some (.int (x1)), some (.int (x2))] [] := by
  refine r_iload_n (i := 2) hX e_X3_closeMinute_2 rfl rfl ?_
  refine r_aload_n (i := 0) hX e_X3_closeMinute_3 rfl rfl ?_
  obtain ⟨g1, hf⟩ := gd_s hf
  obtain ⟨r2, hr2, hf⟩ := bd_s hf
  refine r_getR hX hn e_X3_closeMinute_4 fl_3_67 rfl g1 hr2 ?_
  obtain ⟨g3, hf⟩ := gd_s hf
  refine r_getI hX hn e_X3_closeMinute_7 fl_3_101 rfl g3 ?_
  refine r_icmp_ge hX e_X3_closeMinute_10 (fun hc => ?_) (fun hc => ?_)
  · have hf := ite_t hf hc
    refine r_iconst hX e_X3_closeMinute_66 ic_0 ?_
    refine r_istore_n (i := 2) hX e_X3_closeMinute_67 rfl (Nat.le_of_ble_eq_true rfl) rfl ?_
    exact GoN.weak (t_X3_closeMinute_68 hX hn hR FU M (x0) (x1) (0) hf) rfl (sb_s (sb_s (sb_s (sb_z _))))
  · have hf := ite_f hf hc
    refine r_aload_n (i := 0) hX e_X3_closeMinute_13 rfl rfl ?_
    refine r_getR hX hn e_X3_closeMinute_14 fl_3_67 rfl g1 hr2 ?_
    obtain ⟨r4, hr4, hf⟩ := bd_s hf
    refine r_getR hX hn e_X3_closeMinute_17 fl_3_104 rfl g3 hr4 ?_
    refine r_iload_n (i := 2) hX e_X3_closeMinute_20 rfl rfl ?_
    obtain ⟨g5, hf⟩ := gd_s hf
    obtain ⟨r6, hr6, hf⟩ := bd_s hf
    refine r_aald hX hn e_X3_closeMinute_21 g5 (Nat.le_of_ble_eq_true rfl) rfl rfl rfl hr6 ?_
    obtain ⟨g7, hf⟩ := gd_s hf
    refine r_getI hX hn e_X3_closeMinute_22 fl_3_137 rfl g7 ?_
    refine r_iconst hX e_X3_closeMinute_25 ic_2 ?_
    refine r_icmp_ne hX e_X3_closeMinute_26 (fun hc => ?_) (fun hc => ?_)
    · have hf := ite_f hf hc
      exact GoN.weak (t_X3_closeMinute_46 hX hn hR hk2 M (x0) (x1) (x2) hf) rfl (sb_s (sb_s (sb_s (sb_z _))))
    · have hf := ite_t hf hc
      refine r_aload_n (i := 0) hX e_X3_closeMinute_29 rfl rfl ?_
      refine r_iload_n (i := 2) hX e_X3_closeMinute_30 rfl rfl ?_
      refine r_aload_n (i := 0) hX e_X3_closeMinute_31 rfl rfl ?_
      refine r_getR hX hn e_X3_closeMinute_32 fl_3_67 rfl g1 hr2 ?_
      refine r_getR hX hn e_X3_closeMinute_35 fl_3_104 rfl g3 hr4 ?_
      refine r_iload_n (i := 2) hX e_X3_closeMinute_38 rfl rfl ?_
      refine r_aald hX hn e_X3_closeMinute_39 g5 (Nat.le_of_ble_eq_true rfl) rfl rfl rfl hr6 ?_
      refine r_getI hX hn e_X3_closeMinute_40 fl_3_177 rfl g7 ?_
      obtain ⟨u8, hu8, hf⟩ := bd_s hf
      refine r_cvv (As := fun K B => [.int (x2), .int ((gI M r6 6))]) hX hn (t_X3_learn hu8) e_X3_closeMinute_43 cw_X3_learn cv_X3_learn lk_3_180 ⟨Nat.le_of_ble_eq_true rfl, Nat.le_of_ble_eq_true rfl⟩ (ci := 3) rfl rfl (Nat.le_of_ble_eq_true rfl) g1 rfl rfl (Nat.le_of_ble_eq_true rfl) ⟨Nat.zero_le _, Nat.zero_le _⟩ ?_
      exact GoN.weak (t_X3_closeMinute_46 hX hn hR hk2 u8 (x0) (x1) (x2) hf) rfl (sb_s (sb_s (sb_s (sb_z _))))
theorem t_X3_closeMinute_2 {X : Cx} {res : Mem}  (hX : OkX X cX3_closeMinute RX3 2 43) (hn : Fit X shC nC) (hR : RetV X shC nC res)  : ∀ (n : Nat) (M : Mem) (x0 : Nat) (x1 : Int32) (x2 : Int32),  f_X3_closeMinute_2  n M x0 x1 x2 = some res → GoN X shC nC 0 0 M 2 [some (.ref (X.B + x0)), some (.int (x1)), some (.int (x2))] [] := by
  intro n
  induction n with
  | zero => intro M x0 x1 x2 hf; cases hf
  | succ n ih => intro M x0 x1 x2 hf; exact t_s_X3_closeMinute_2 hX hn hR  ih M x0 x1 x2 hf
theorem t_X3_closeMinute {l : Launch} {M : Mem} {a0 : Nat} {a1 : Int32} {res : Mem} (hf : f_X3_closeMinute M a0 a1 = some res) : Cv l yX3_closeMinute cX3_closeMinute 3 none 2 43 shC nC (fun K B => [.ref (B + a0), .int a1]) M res := by
  refine met_v (own := RX3) (lo := fun K B => [some (.ref (B + a0)), some (.int a1), none]) (by decide +kernel) rfl shC_ok (fun _ _ => rfl) (fun _ _ => rfl) (fun _ _ => Nat.le_of_ble_eq_true rfl) (fun X hX hn hlx hR => ?_)
  refine r_iconst hX e_X3_closeMinute_0 ic_0 ?_
  refine r_istore_n (i := 2) hX e_X3_closeMinute_1 rfl (Nat.le_of_ble_eq_true rfl) rfl ?_
  exact GoN.weak (t_X3_closeMinute_2 hX hn hR FU M (a0) (a1) (0) hf) rfl (sb_s (sb_s (sb_s (sb_z _))))
def s_X3_play_34 (k19 : Mem → Nat → Nat → Int32 → Option (Mem)) (k34 : Mem → Nat → Nat → Int32 → Int32 → Option (Mem)) (M : Mem) (x0 : Nat) (x1 : Nat) (x2 : Int32) (x3 : Int32) : Option (Mem) :=
  gd (oB shC x1 4) <| if (gI M x1 0) ≤ x3 then gd (oB shC x0 3) <| bd (f_X3_closeMinute M x0 x2) fun u3 => k19 u3 (x0) (x1) ((x2 + 1)) else gd (oB shC x0 3) <| bd (f_X3_tradeAt M x0 x3 x2) fun u5 => k34 u5 (x0) (x1) (x2) ((x3 + 1))
def f_X3_play_34 (k19 : Mem → Nat → Nat → Int32 → Option (Mem)) : Nat → Mem → Nat → Nat → Int32 → Int32 → Option (Mem)
  | 0 => fun _ _ _ _ _ => none
  | n + 1 => fun y0 y1 y2 y3 y4 => s_X3_play_34 k19 (f_X3_play_34 k19 n) y0 y1 y2 y3 y4
def s_X3_play_19 (k19 : Mem → Nat → Nat → Int32 → Option (Mem)) (M : Mem) (x0 : Nat) (x1 : Nat) (x2 : Int32) : Option (Mem) :=
  gd (oB shC x1 4) <| if (gI M x1 1) ≤ x2 then some M else gd (oB shC x0 3) <| bd (f_X3_openMinute M x0 x2) fun u3 => f_X3_play_34 k19 FU u3 (x0) (x1) (x2) (0)
def f_X3_play_19  : Nat → Mem → Nat → Nat → Int32 → Option (Mem)
  | 0 => fun _ _ _ _ => none
  | n + 1 => fun y0 y1 y2 y3 => s_X3_play_19  (f_X3_play_19  n) y0 y1 y2 y3
def f_X3_play (M : Mem) (a0 : Nat) (a1 : Nat) : Option (Mem) :=
  gd (oB shC a0 3) <| nx (sR M a0 10 (some a1)) fun M2 => bd (gR M2 a0 0) fun r3 => gd (oB shC r3 2) <| bd (f_X2_follow M2 r3 a1) fun u5 => bd (f_X3_begin u5 a0) fun u6 => f_X3_play_19 FU u6 (a0) (a1) (0)
theorem t_s_X3_play_34 {X : Cx} {res : Mem} {k19 : Mem → Nat → Nat → Int32 → Option (Mem)} {k34 : Mem → Nat → Nat → Int32 → Int32 → Option (Mem)} (hX : OkX X cX3_play RX3 4 96) (hn : Fit X shC nC) (hR : RetV X shC nC res) (hk19 : ∀ M x0 x1 x2, k19 M x0 x1 x2 = some res → GoN X shC nC 0 0 M 19 [some (.ref (X.B + x0)), some (.ref (X.B + x1)), some (.int (x2)), none] []) (hk34 : ∀ M x0 x1 x2 x3, k34 M x0 x1 x2 x3 = some res → GoN X shC nC 0 0 M 34 [some (.ref (X.B + x0)), some (.ref (X.B + x1)), some (.int (x2)), some (.int (x3))] []) (M : Mem) (x0 : Nat) (x1 : Nat) (x2 : Int32) (x3 : Int32) (hf : s_X3_play_34 k19 k34 M x0 x1 x2 x3 = some res) : GoN X shC nC 0 0 M 34 [some (.ref (X.B + x0)), some (.ref (X.B + x1)), some (.int (x2)), some (.int (x3))] [] := by
  refine r_iload_n (i := 3) hX e_X3_play_34 rfl rfl ?_
  refine r_aload_n (i := 1) hX e_X3_play_35 rfl rfl ?_
  obtain ⟨g1, hf⟩ := gd_s hf
  refine r_getI hX hn e_X3_play_36 fl_3_88 rfl g1 ?_
  refine r_icmp_ge hX e_X3_play_39 (fun hc => ?_) (fun hc => ?_)
  · have hf := ite_t hf hc
    refine r_aload_n (i := 0) hX e_X3_play_54 rfl rfl ?_
    refine r_iload_n (i := 2) hX e_X3_play_55 rfl rfl ?_
    obtain ⟨g2, hf⟩ := gd_s hf
    obtain ⟨u3, hu3, hf⟩ := bd_s hf
    refine r_cvv (As := fun K B => [.int (x2)]) hX hn (t_X3_closeMinute hu3) e_X3_play_56 cw_X3_closeMinute cv_X3_closeMinute lk_3_95 ⟨Nat.le_of_ble_eq_true rfl, Nat.le_of_ble_eq_true rfl⟩ (ci := 3) rfl rfl (Nat.le_of_ble_eq_true rfl) g2 rfl rfl (Nat.le_of_ble_eq_true rfl) ⟨Nat.zero_le _, Nat.zero_le _⟩ ?_
    refine r_iinc (v := x2 + 1) hX e_X3_play_59 rfl (ii_s ic_1) (Nat.le_of_ble_eq_true rfl) rfl ?_
    refine r_goto hX e_X3_play_62 ?_
    exact GoN.weak (hk19 u3 (x0) (x1) ((x2 + 1)) hf) rfl (sb_s (sb_s (sb_s (sb_n (sb_z _)))))
  · have hf := ite_f hf hc
    refine r_aload_n (i := 0) hX e_X3_play_42 rfl rfl ?_
    refine r_iload_n (i := 3) hX e_X3_play_43 rfl rfl ?_
    refine r_iload_n (i := 2) hX e_X3_play_44 rfl rfl ?_
    obtain ⟨g4, hf⟩ := gd_s hf
    obtain ⟨u5, hu5, hf⟩ := bd_s hf
    refine r_cvv (As := fun K B => [.int (x3), .int (x2)]) hX hn (t_X3_tradeAt hu5) e_X3_play_45 cw_X3_tradeAt cv_X3_tradeAt lk_3_91 ⟨Nat.le_of_ble_eq_true rfl, Nat.le_of_ble_eq_true rfl⟩ (ci := 3) rfl rfl (Nat.le_of_ble_eq_true rfl) g4 rfl rfl (Nat.le_of_ble_eq_true rfl) ⟨Nat.zero_le _, Nat.zero_le _⟩ ?_
    refine r_iinc (v := x3 + 1) hX e_X3_play_48 rfl (ii_s ic_1) (Nat.le_of_ble_eq_true rfl) rfl ?_
    refine r_goto hX e_X3_play_51 ?_
    exact GoN.weak (hk34 u5 (x0) (x1) (x2) ((x3 + 1)) hf) rfl (sb_s (sb_s (sb_s (sb_s (sb_z _)))))
theorem t_X3_play_34 {X : Cx} {res : Mem} {k19 : Mem → Nat → Nat → Int32 → Option (Mem)} (hX : OkX X cX3_play RX3 4 96) (hn : Fit X shC nC) (hR : RetV X shC nC res) (hk19 : ∀ M x0 x1 x2, k19 M x0 x1 x2 = some res → GoN X shC nC 0 0 M 19 [some (.ref (X.B + x0)), some (.ref (X.B + x1)), some (.int (x2)), none] []) : ∀ (n : Nat) (M : Mem) (x0 : Nat) (x1 : Nat) (x2 : Int32) (x3 : Int32),  f_X3_play_34 k19 n M x0 x1 x2 x3 = some res → GoN X shC nC 0 0 M 34 [some (.ref (X.B + x0)), some (.ref (X.B + x1)), some (.int (x2)), some (.int (x3))] [] := by
  intro n
  induction n with
  | zero => intro M x0 x1 x2 x3 hf; cases hf
  | succ n ih => intro M x0 x1 x2 x3 hf; exact t_s_X3_play_34 hX hn hR hk19 ih M x0 x1 x2 x3 hf
theorem t_s_X3_play_19 {X : Cx} {res : Mem} {k19 : Mem → Nat → Nat → Int32 → Option (Mem)} (hX : OkX X cX3_play RX3 4 96) (hn : Fit X shC nC) (hR : RetV X shC nC res) (hk19 : ∀ M x0 x1 x2, k19 M x0 x1 x2 = some res → GoN X shC nC 0 0 M 19 [some (.ref (X.B + x0)), some (.ref (X.B + x1)), some (.int (x2)), none] []) (M : Mem) (x0 : Nat) (x1 : Nat) (x2 : Int32) (hf : s_X3_play_19 k19 M x0 x1 x2 = some res) : GoN X shC nC 0 0 M 19 [some (.ref (X.B + x0)), some (.ref (X.B + x1)), some (.int (x2)), none] [] := by
  refine r_iload_n (i := 2) hX e_X3_play_19 rfl rfl ?_
  refine r_aload_n (i := 1) hX e_X3_play_20 rfl rfl ?_
  obtain ⟨g1, hf⟩ := gd_s hf
  refine r_getI hX hn e_X3_play_21 fl_3_78 rfl g1 ?_
  refine r_icmp_ge hX e_X3_play_24 (fun hc => ?_) (fun hc => ?_)
  · have hf := ite_t hf hc
    exact r_ret hX hR e_X3_play_65 hf
  · have hf := ite_f hf hc
    refine r_aload_n (i := 0) hX e_X3_play_27 rfl rfl ?_
    refine r_iload_n (i := 2) hX e_X3_play_28 rfl rfl ?_
    obtain ⟨g2, hf⟩ := gd_s hf
    obtain ⟨u3, hu3, hf⟩ := bd_s hf
    refine r_cvv (As := fun K B => [.int (x2)]) hX hn (t_X3_openMinute hu3) e_X3_play_29 cw_X3_openMinute cv_X3_openMinute lk_3_84 ⟨Nat.le_of_ble_eq_true rfl, Nat.le_of_ble_eq_true rfl⟩ (ci := 3) rfl rfl (Nat.le_of_ble_eq_true rfl) g2 rfl rfl (Nat.le_of_ble_eq_true rfl) ⟨Nat.zero_le _, Nat.zero_le _⟩ ?_
    refine r_iconst hX e_X3_play_32 ic_0 ?_
    refine r_istore_n (i := 3) hX e_X3_play_33 rfl (Nat.le_of_ble_eq_true rfl) rfl ?_
    exact GoN.weak (t_X3_play_34 hX hn hR hk19 FU u3 (x0) (x1) (x2) (0) hf) rfl (sb_s (sb_s (sb_s (sb_s (sb_z _)))))
theorem t_X3_play_19 {X : Cx} {res : Mem}  (hX : OkX X cX3_play RX3 4 96) (hn : Fit X shC nC) (hR : RetV X shC nC res)  : ∀ (n : Nat) (M : Mem) (x0 : Nat) (x1 : Nat) (x2 : Int32),  f_X3_play_19  n M x0 x1 x2 = some res → GoN X shC nC 0 0 M 19 [some (.ref (X.B + x0)), some (.ref (X.B + x1)), some (.int (x2)), none] [] := by
  intro n
  induction n with
  | zero => intro M x0 x1 x2 hf; cases hf
  | succ n ih => intro M x0 x1 x2 hf; exact t_s_X3_play_19 hX hn hR  ih M x0 x1 x2 hf
theorem t_X3_play {l : Launch} {M : Mem} {a0 a1 : Nat} {res : Mem} (hf : f_X3_play M a0 a1 = some res) : Cv l yX3_play cX3_play 4 none 4 96 shC nC (fun K B => [.ref (B + a0), .ref (B + a1)]) M res := by
  refine met_v (own := RX3) (lo := fun K B => [some (.ref (B + a0)), some (.ref (B + a1)), none, none]) (by decide +kernel) rfl shC_ok (fun _ _ => rfl) (fun _ _ => rfl) (fun _ _ => Nat.le_of_ble_eq_true rfl) (fun X hX hn hlx hR => ?_)
  refine r_aload_n (i := 0) hX e_X3_play_0 rfl rfl ?_
  refine r_aload_n (i := 1) hX e_X3_play_1 rfl rfl ?_
  obtain ⟨g1, hf⟩ := gd_s hf
  obtain ⟨M2, hM2, hf⟩ := nx_s hf
  refine r_putR hX hn hM2 e_X3_play_2 fl_3_67 fp_3_10 rfl g1 rfl rfl ?_
  refine r_aload_n (i := 0) hX e_X3_play_5 rfl rfl ?_
  obtain ⟨r3, hr3, hf⟩ := bd_s hf
  refine r_getR hX hn e_X3_play_6 fl_3_12 rfl g1 hr3 ?_
  refine r_aload_n (i := 1) hX e_X3_play_9 rfl rfl ?_
  obtain ⟨g4, hf⟩ := gd_s hf
  obtain ⟨u5, hu5, hf⟩ := bd_s hf
  refine r_cvv (As := fun K B => [.ref (B + a1)]) hX hn (t_X2_follow hu5) e_X3_play_10 cw_X2_follow cv_X2_follow lk_3_71 ⟨Nat.le_of_ble_eq_true rfl, Nat.le_of_ble_eq_true rfl⟩ (ci := 2) rfl rfl (Nat.le_of_ble_eq_true rfl) g4 rfl rfl (Nat.le_of_ble_eq_true rfl) ⟨Nat.zero_le _, Nat.zero_le _⟩ ?_
  refine r_aload_n (i := 0) hX e_X3_play_13 rfl rfl ?_
  obtain ⟨u6, hu6, hf⟩ := bd_s hf
  refine r_cvv (As := fun K B => []) hX hn (t_X3_begin hu6) e_X3_play_14 cw_X3_begin cv_X3_begin lk_3_75 ⟨Nat.le_of_ble_eq_true rfl, Nat.le_of_ble_eq_true rfl⟩ (ci := 3) rfl rfl (Nat.le_of_ble_eq_true rfl) g1 rfl rfl (Nat.le_of_ble_eq_true rfl) ⟨Nat.zero_le _, Nat.zero_le _⟩ ?_
  refine r_iconst hX e_X3_play_17 ic_0 ?_
  refine r_istore_n (i := 2) hX e_X3_play_18 rfl (Nat.le_of_ble_eq_true rfl) rfl ?_
  exact GoN.weak (t_X3_play_19 hX hn hR FU u6 (a0) (a1) (0) hf) rfl (sb_s (sb_s (sb_s (sb_n (sb_z _)))))
def s_X3_salesAt_4 (M : Mem) (k4 : Nat → Int32 → Int32 → Int32 → Option (Int32)) (x0 : Nat) (x1 : Int32) (x2 : Int32) (x3 : Int32) : Option (Int32) :=
  gd (oB shC x0 3) <| if (gI M x0 4) ≤ x3 then some x2 else bd (gR M x0 6) fun r2 => gd (aB shC r2 0 x3) <| if (gI M r2 (x3 : Int32).toNatClampNeg) = x1 then k4 (x0) (x1) ((x2 + 1)) ((x3 + 1)) else k4 (x0) (x1) (x2) ((x3 + 1))
def f_X3_salesAt_4 (M : Mem)  : Nat → Nat → Int32 → Int32 → Int32 → Option (Int32)
  | 0 => fun _ _ _ _ => none
  | n + 1 => fun y0 y1 y2 y3 => s_X3_salesAt_4 M  (f_X3_salesAt_4 M  n) y0 y1 y2 y3
def f_X3_salesAt (M : Mem) (a0 : Nat) (a1 : Int32) : Option (Int32) :=
  f_X3_salesAt_4 M FU (a0) (a1) (0) (0)
theorem t_s_X3_salesAt_4 {X : Cx} {M : Mem} {res : Int32} {k4 : Nat → Int32 → Int32 → Int32 → Option (Int32)} (hX : OkX X cX3_salesAt RX3 0 0) (hn : Fit X shC nC) (hR : RetI X shC nC .int (M, res)) (hk4 : ∀ x0 x1 x2 x3, k4 x0 x1 x2 x3 = some res → GoN X shC nC 0 0 M 4 [some (.ref (X.B + x0)), some (.int (x1)), some (.int (x2)), some (.int (x3))] []) (x0 : Nat) (x1 : Int32) (x2 : Int32) (x3 : Int32) (hf : s_X3_salesAt_4 M k4 x0 x1 x2 x3 = some res) : GoN X shC nC 0 0 M 4 [some (.ref (X.B + x0)), some (.int (x1)), some (.int (x2)), some (.int (x3))] [] := by
  refine r_iload_n (i := 3) hX e_X3_salesAt_4 rfl rfl ?_
  refine r_aload_n (i := 0) hX e_X3_salesAt_5 rfl rfl ?_
  obtain ⟨g1, hf⟩ := gd_s hf
  refine r_getI hX hn e_X3_salesAt_6 fl_3_98 rfl g1 ?_
  refine r_icmp_ge hX e_X3_salesAt_9 (fun hc => ?_) (fun hc => ?_)
  · have hf := ite_t hf hc
    refine r_iload_n (i := 2) hX e_X3_salesAt_31 rfl rfl ?_
    exact r_iret hX hR e_X3_salesAt_32 (ro_s hf)
  · have hf := ite_f hf hc
    refine r_aload_n (i := 0) hX e_X3_salesAt_12 rfl rfl ?_
    obtain ⟨r2, hr2, hf⟩ := bd_s hf
    refine r_getR hX hn e_X3_salesAt_13 fl_3_33 rfl g1 hr2 ?_
    refine r_iload_n (i := 3) hX e_X3_salesAt_16 rfl rfl ?_
    obtain ⟨g3, hf⟩ := gd_s hf
    refine r_iald hX hn e_X3_salesAt_17 g3 ?_
    refine r_iload_n (i := 1) hX e_X3_salesAt_18 rfl rfl ?_
    refine r_icmp_ne hX e_X3_salesAt_19 (fun hc => ?_) (fun hc => ?_)
    · have hf := ite_f hf hc
      refine r_iinc (v := x3 + 1) hX e_X3_salesAt_25 rfl (ii_s ic_1) (Nat.le_of_ble_eq_true rfl) rfl ?_
      refine r_goto hX e_X3_salesAt_28 ?_
      exact GoN.weak (hk4 (x0) (x1) (x2) ((x3 + 1)) hf) rfl (sb_s (sb_s (sb_s (sb_s (sb_z _)))))
    · have hf := ite_t hf hc
      refine r_iinc (v := x2 + 1) hX e_X3_salesAt_22 rfl (ii_s ic_1) (Nat.le_of_ble_eq_true rfl) rfl ?_
      refine r_iinc (v := x3 + 1) hX e_X3_salesAt_25 rfl (ii_s ic_1) (Nat.le_of_ble_eq_true rfl) rfl ?_
      refine r_goto hX e_X3_salesAt_28 ?_
      exact GoN.weak (hk4 (x0) (x1) ((x2 + 1)) ((x3 + 1)) hf) rfl (sb_s (sb_s (sb_s (sb_s (sb_z _)))))
theorem t_X3_salesAt_4 {X : Cx} {M : Mem} {res : Int32}  (hX : OkX X cX3_salesAt RX3 0 0) (hn : Fit X shC nC) (hR : RetI X shC nC .int (M, res))  : ∀ (n : Nat) (x0 : Nat) (x1 : Int32) (x2 : Int32) (x3 : Int32),  f_X3_salesAt_4 M  n x0 x1 x2 x3 = some res → GoN X shC nC 0 0 M 4 [some (.ref (X.B + x0)), some (.int (x1)), some (.int (x2)), some (.int (x3))] [] := by
  intro n
  induction n with
  | zero => intro x0 x1 x2 x3 hf; cases hf
  | succ n ih => intro x0 x1 x2 x3 hf; exact t_s_X3_salesAt_4 hX hn hR  ih x0 x1 x2 x3 hf
theorem t_X3_salesAt {l : Launch} {M : Mem} {a0 : Nat} {a1 : Int32} {res : Int32} (hf : f_X3_salesAt M a0 a1 = some res) : Ci l yX3_salesAt cX3_salesAt 4 (some .int) 0 0 shC nC (fun K B => [.ref (B + a0), .int a1]) M (M, res) := by
  refine met_i (own := RX3) (lo := fun K B => [some (.ref (B + a0)), some (.int a1), none, none]) (by decide +kernel) rfl shC_ok (fun _ _ => rfl) (fun _ _ => rfl) (fun _ _ => Nat.le_of_ble_eq_true rfl) (fun X hX hn hlx hR => ?_)
  refine r_iconst hX e_X3_salesAt_0 ic_0 ?_
  refine r_istore_n (i := 2) hX e_X3_salesAt_1 rfl (Nat.le_of_ble_eq_true rfl) rfl ?_
  refine r_iconst hX e_X3_salesAt_2 ic_0 ?_
  refine r_istore_n (i := 3) hX e_X3_salesAt_3 rfl (Nat.le_of_ble_eq_true rfl) rfl ?_
  exact GoN.weak (t_X3_salesAt_4 hX hn hR FU (a0) (a1) (0) (0) hf) rfl (sb_s (sb_s (sb_s (sb_s (sb_z _)))))
def s_X3_takenAt_4 (M : Mem) (k4 : Nat → Int32 → Int32 → Int32 → Option (Int32)) (x0 : Nat) (x1 : Int32) (x2 : Int32) (x3 : Int32) : Option (Int32) :=
  gd (oB shC x0 3) <| if (gI M x0 4) ≤ x3 then some x2 else bd (gR M x0 6) fun r2 => gd (aB shC r2 0 x3) <| if (gI M r2 (x3 : Int32).toNatClampNeg) = x1 then bd (gR M x0 8) fun r4 => gd (aB shC r4 0 x3) <| k4 (x0) (x1) ((x2 + (gI M r4 (x3 : Int32).toNatClampNeg))) ((x3 + 1)) else k4 (x0) (x1) (x2) ((x3 + 1))
def f_X3_takenAt_4 (M : Mem)  : Nat → Nat → Int32 → Int32 → Int32 → Option (Int32)
  | 0 => fun _ _ _ _ => none
  | n + 1 => fun y0 y1 y2 y3 => s_X3_takenAt_4 M  (f_X3_takenAt_4 M  n) y0 y1 y2 y3
def f_X3_takenAt (M : Mem) (a0 : Nat) (a1 : Int32) : Option (Int32) :=
  f_X3_takenAt_4 M FU (a0) (a1) (0) (0)
theorem t_s_X3_takenAt_4 {X : Cx} {M : Mem} {res : Int32} {k4 : Nat → Int32 → Int32 → Int32 → Option (Int32)} (hX : OkX X cX3_takenAt RX3 0 0) (hn : Fit X shC nC) (hR : RetI X shC nC .int (M, res)) (hk4 : ∀ x0 x1 x2 x3, k4 x0 x1 x2 x3 = some res → GoN X shC nC 0 0 M 4 [some (.ref (X.B + x0)), some (.int (x1)), some (.int (x2)), some (.int (x3))] []) (x0 : Nat) (x1 : Int32) (x2 : Int32) (x3 : Int32) (hf : s_X3_takenAt_4 M k4 x0 x1 x2 x3 = some res) : GoN X shC nC 0 0 M 4 [some (.ref (X.B + x0)), some (.int (x1)), some (.int (x2)), some (.int (x3))] [] := by
  refine r_iload_n (i := 3) hX e_X3_takenAt_4 rfl rfl ?_
  refine r_aload_n (i := 0) hX e_X3_takenAt_5 rfl rfl ?_
  obtain ⟨g1, hf⟩ := gd_s hf
  refine r_getI hX hn e_X3_takenAt_6 fl_3_98 rfl g1 ?_
  refine r_icmp_ge hX e_X3_takenAt_9 (fun hc => ?_) (fun hc => ?_)
  · have hf := ite_t hf hc
    refine r_iload_n (i := 2) hX e_X3_takenAt_37 rfl rfl ?_
    exact r_iret hX hR e_X3_takenAt_38 (ro_s hf)
  · have hf := ite_f hf hc
    refine r_aload_n (i := 0) hX e_X3_takenAt_12 rfl rfl ?_
    obtain ⟨r2, hr2, hf⟩ := bd_s hf
    refine r_getR hX hn e_X3_takenAt_13 fl_3_33 rfl g1 hr2 ?_
    refine r_iload_n (i := 3) hX e_X3_takenAt_16 rfl rfl ?_
    obtain ⟨g3, hf⟩ := gd_s hf
    refine r_iald hX hn e_X3_takenAt_17 g3 ?_
    refine r_iload_n (i := 1) hX e_X3_takenAt_18 rfl rfl ?_
    refine r_icmp_ne hX e_X3_takenAt_19 (fun hc => ?_) (fun hc => ?_)
    · have hf := ite_f hf hc
      refine r_iinc (v := x3 + 1) hX e_X3_takenAt_31 rfl (ii_s ic_1) (Nat.le_of_ble_eq_true rfl) rfl ?_
      refine r_goto hX e_X3_takenAt_34 ?_
      exact GoN.weak (hk4 (x0) (x1) (x2) ((x3 + 1)) hf) rfl (sb_s (sb_s (sb_s (sb_s (sb_z _)))))
    · have hf := ite_t hf hc
      refine r_iload_n (i := 2) hX e_X3_takenAt_22 rfl rfl ?_
      refine r_aload_n (i := 0) hX e_X3_takenAt_23 rfl rfl ?_
      obtain ⟨r4, hr4, hf⟩ := bd_s hf
      refine r_getR hX hn e_X3_takenAt_24 fl_3_39 rfl g1 hr4 ?_
      refine r_iload_n (i := 3) hX e_X3_takenAt_27 rfl rfl ?_
      obtain ⟨g5, hf⟩ := gd_s hf
      refine r_iald hX hn e_X3_takenAt_28 g5 ?_
      refine r_iadd hX e_X3_takenAt_29 ?_
      refine r_istore_n (i := 2) hX e_X3_takenAt_30 rfl (Nat.le_of_ble_eq_true rfl) rfl ?_
      refine r_iinc (v := x3 + 1) hX e_X3_takenAt_31 rfl (ii_s ic_1) (Nat.le_of_ble_eq_true rfl) rfl ?_
      refine r_goto hX e_X3_takenAt_34 ?_
      exact GoN.weak (hk4 (x0) (x1) ((x2 + (gI M r4 (x3 : Int32).toNatClampNeg))) ((x3 + 1)) hf) rfl (sb_s (sb_s (sb_s (sb_s (sb_z _)))))
theorem t_X3_takenAt_4 {X : Cx} {M : Mem} {res : Int32}  (hX : OkX X cX3_takenAt RX3 0 0) (hn : Fit X shC nC) (hR : RetI X shC nC .int (M, res))  : ∀ (n : Nat) (x0 : Nat) (x1 : Int32) (x2 : Int32) (x3 : Int32),  f_X3_takenAt_4 M  n x0 x1 x2 x3 = some res → GoN X shC nC 0 0 M 4 [some (.ref (X.B + x0)), some (.int (x1)), some (.int (x2)), some (.int (x3))] [] := by
  intro n
  induction n with
  | zero => intro x0 x1 x2 x3 hf; cases hf
  | succ n ih => intro x0 x1 x2 x3 hf; exact t_s_X3_takenAt_4 hX hn hR  ih x0 x1 x2 x3 hf
theorem t_X3_takenAt {l : Launch} {M : Mem} {a0 : Nat} {a1 : Int32} {res : Int32} (hf : f_X3_takenAt M a0 a1 = some res) : Ci l yX3_takenAt cX3_takenAt 4 (some .int) 0 0 shC nC (fun K B => [.ref (B + a0), .int a1]) M (M, res) := by
  refine met_i (own := RX3) (lo := fun K B => [some (.ref (B + a0)), some (.int a1), none, none]) (by decide +kernel) rfl shC_ok (fun _ _ => rfl) (fun _ _ => rfl) (fun _ _ => Nat.le_of_ble_eq_true rfl) (fun X hX hn hlx hR => ?_)
  refine r_iconst hX e_X3_takenAt_0 ic_0 ?_
  refine r_istore_n (i := 2) hX e_X3_takenAt_1 rfl (Nat.le_of_ble_eq_true rfl) rfl ?_
  refine r_iconst hX e_X3_takenAt_2 ic_0 ?_
  refine r_istore_n (i := 3) hX e_X3_takenAt_3 rfl (Nat.le_of_ble_eq_true rfl) rfl ?_
  exact GoN.weak (t_X3_takenAt_4 hX hn hR FU (a0) (a1) (0) (0) hf) rfl (sb_s (sb_s (sb_s (sb_s (sb_z _)))))
