/-! ROWS of numbers, both sides -/
theorem zC_rw : ∀ j, j < 4 → (CRf 83 j = some (266 + 2 * j) ∧ mutB 83 j = false) ∧ oB shC (266 + 2 * j) 8 = true ∧ (CRf (266 + 2 * j) 3 = some (267 + 2 * j) ∧ mutB (266 + 2 * j) 3 = false) ∧ shC (267 + 2 * j) = (101, 60) := by decide +kernel
section RWS
variable {p d : Nat} {D : MK} {M1 M2 : Mem}
theorem cr_rw {M : Mem} (h : CR M) {j : Nat} (hj : j < 4) : gR M 83 j = some (266 + 2 * j) ∧ gR M (266 + 2 * j) 3 = some (267 + 2 * j) := ⟨(h _ _ (zC_rw j hj).1.2).trans (zC_rw j hj).1.1, (h _ _ (zC_rw j hj).2.2.1.2).trans (zC_rw j hj).2.2.1.1⟩
theorem isSlot1 (M : Mem) (a : Int32) : f_X10_isSlot M a = some (if 0 ≤ a ∧ a < nI 4 then 1 else 0) := by
  unfold f_X10_isSlot
  rw [rngB a 4 (hi := 4) (by decide) rfl]
  split <;> rfl
theorem isSlot2 (M : Mem) (a : Int32) : f_X11_isSlot M a = some (if 0 ≤ a ∧ a < nI 4 then 1 else 0) := by
  unfold f_X11_isSlot
  rw [in_c 4 (by decide) (by decide), bd_t, isZ_ite, gd_t]
/-- rows alone are other -/
theorem Rel0.rows {M1' M2' : Mem} (h : Rel0 p d D M1 M2) (hc : CR M1') (hr : RR M2') (c2 : ∀ a k, a < 266 → gI M1' a k = gI M1 a k) (cL : ∀ a k, a < 266 → gL M1' a k = gL M1 a k) (cR : gR M1' 0 1 = gR M1 0 1 ∧ gR M1' 0 2 = gR M1 0 2) (r2 : ∀ a k, a ≠ 1 → a ≠ 2 → gI M2' a k = gI M2 a k) (hw : ∀ j, j < 4 → RowR M1' M2' j) : Rel0 p d D M1' M2' := by
  have hp := p_or h
  obtain ⟨a1, a2, a3, a4, a5, a6, a7, a8, a9, a10, a11, a12⟩ := h
  refine ⟨hc, hr, cR.1.trans a3, cR.2.trans a4, a5, a6, a7, a8.keep a6.n (fun a z1 z2 => ⟨fun k => c2 a k (by omega), fun k => cL a k (by omega)⟩), a9.cp a6 (fun q w hq k hk => r2 _ _ (by rcases cpL_or hq with z | z | z | z | z | z | z <;> omega) (by rcases cpL_or hq with z | z | z | z | z | z | z <;> omega)), fun j hj => ?_, hw, ?_⟩
  · exact (a10 j hj).keep (c2 82 j (by omega)) (r2 13 j (by omega) (by omega)) (fun a z => ⟨fun k => c2 a k (by unfold inB at z; omega), fun k => cL a k (by unfold inB at z; omega)⟩) (fun q w hq k hk => r2 _ _ (by rcases cpL_or hq with z | z | z | z | z | z | z <;> omega) (by rcases cpL_or hq with z | z | z | z | z | z | z <;> omega))
  · exact a12.keep (fun a k z => c2 a k (by omega)) (fun a k z => r2 a k (by omega) (by omega))
theorem fillJ_loop {q L : Nat} (hs : shC q = (101, L)) (hL : L < 1000) : ∀ n k M, k ≤ L → L < n + k → (∀ i, i < k → gL M q i = 0) → ∃ M', f_X21_fillJ_6 n M q 0 (nI k) (nI L) = some M' ∧ OnlyL (· = q) M M' ∧ M'.1 = M.1 ∧ ∀ i, i < L → gL M' q i = 0 := by
  intro n
  induction n with
  | zero => intro k M h1 h2; omega
  | succ n ih =>
    intro k M h1 h2 hz
    show ∃ M', s_X21_fillJ_6 (f_X21_fillJ_6 n) M q 0 (nI k) (nI L) = some M' ∧ _
    unfold s_X21_fillJ_6
    by_cases hk : k = L
    · rw [if_pos (by rw [hk]; exact nI_le (Nat.le_refl _) (by omega))]
      exact ⟨M, rfl, OnlyL.rf, rfl, fun i hi => hz i (by omega)⟩
    rw [if_neg (nI_ge (by omega) (by omega)), aB_t k hs rfl (by omega) (by omega), gd_t, nx_t, nI_clamp (by omega), nI_1]
    obtain ⟨M', e1, e2, e3, e4⟩ := ih (k + 1) (sL M q k 0) (by omega) (by omega) (fun i hi => by
      rw [gL_sL]
      by_cases e : i = k
      · rw [if_pos ⟨rfl, e⟩]
      · rw [if_neg (by omega)]
        exact hz i (by omega))
    exact ⟨M', e1, (OnlyL.rf.L (S := (· = q)) rfl).tr e2, e3, e4⟩
theorem fillJ_eq {M : Mem} {q L : Nat} (hs : shC q = (101, L)) (hL : L < 1000) : ∃ M', f_X21_fillJ M q 0 = some M' ∧ OnlyL (· = q) M M' ∧ M'.1 = M.1 ∧ ∀ i, i < L → gL M' q i = 0 := by
  unfold f_X21_fillJ
  have ho : oB shC q 101 = true := by
    unfold oB
    rw [hs]
    rfl
  rw [ho, gd_t, hs]
  exact fillJ_loop hs hL FU 0 M (by omega) (by unfold FU; omega) (fun i hi => by omega)
theorem row57 {j L : Nat} (hj : j < 4) (hL : L ≤ 60) : ∀ n k M, k ≤ L → L < n + k → RR M → (∀ i, i < k → gL M 3 (60 * j + i) = 0) → ∃ M', f_X11_row_57 n M 0 (nI j) (nI L) (nI k) = some (M', 0) ∧ M'.1 = M.1 ∧ M'.2.2 = M.2.2 ∧ (∀ i, i < L → gL M' 3 (60 * j + i) = 0) ∧ ∀ i, i < 60 * j ∨ 60 * j + 60 ≤ i → gL M' 3 i = gL M 3 i := by
  intro n
  induction n with
  | zero => intro k M h1 h2; omega
  | succ n ih =>
    intro k M h1 h2 hR hz
    show ∃ M', s_X11_row_57 (f_X11_row_57 n) M 0 (nI j) (nI L) (nI k) = some (M', 0) ∧ _
    unfold s_X11_row_57
    by_cases hk : k = L
    · rw [if_pos (by rw [hk]; exact nI_le (Nat.le_refl _) (by omega))]
      exact ⟨M, rfl, rfl, rfl, fun i hi => hz i (by omega), fun _ _ => rfl⟩
    rw [if_neg (nI_ge (by omega) (by omega)), oR, gd_t, rr_3 hR, bd_t, m60, aB_t (60 * j + k) zR_3 rfl (by omega) (by decide), gd_t, nx_t, nI_clamp (by omega), nI_1]
    obtain ⟨M', e1, e2, e3, e4, e5⟩ := ih (k + 1) (sL M 3 (60 * j + k) 0) (by omega) (by omega) hR.L (fun i hi => by
      rw [gL_sL]
      by_cases e : i = k
      · rw [if_pos ⟨rfl, by omega⟩]
      · rw [if_neg (by omega)]
        exact hz i (by omega))
    exact ⟨M', e1, e2, e3, e4, fun i hi => by rw [e5 i hi, gL_sL, if_neg (by omega)]⟩
end RWS
theorem eq_row {M1 M2 : Mem} (h : Rel M1 M2) (a b c : Int32) : Same (f_X10_row M1 0 a b c) (f_X11_row M2 0 a b c) := by
  obtain ⟨p, d, D, h, hk⟩ := h
  have h' := h.r0
  have hp := p_or h
  unfold f_X10_row f_X11_row
  rw [oR, gd_t, nx_t, isSlot1, bd_t, isSlot2, bd_t]
  rcases ix_or a 4 (by decide) with z | ⟨j, hj, rfl⟩
  · rw [if_neg z, if_pos rfl, if_pos rfl]
    exact same_no h' hk _
  rw [if_pos (ix_in hj (by decide)), if_neg (show ¬ (1 : Int32) = 0 by decide), if_neg (show ¬ (1 : Int32) = 0 by decide), in_c 4 (by decide) (by decide), bd_t, rngB b 4 (hi := 4) (by decide) rfl]
  rcases ix_or b 4 (by decide) with z | ⟨w, hw, rfl⟩
  · rw [if_neg z, if_neg z, if_pos rfl]
    exact same_no h' hk _
  rw [if_pos (ix_in hw (by decide)), if_pos (ix_in hw (by decide)), if_neg (show ¬ (1 : Int32) = 0 by decide)]
  rcases Decidable.em (c ≤ 60) with c1 | c1
  case' inr =>
    rw [if_neg c1, if_neg c1]
    exact same_no h' hk _
  rw [if_pos c1, if_pos c1]
  rcases Decidable.em (0 ≤ c) with c2 | c2
  case' inr =>
    rw [if_neg c2, if_neg c2]
    exact same_no h' hk _
  rw [if_pos c2, if_pos c2]
  have cin : 0 ≤ c ∧ c < nI 61 := ⟨c2, (le_pred (by decide)).mp (show c ≤ nI 61 - 1 from c1)⟩
  rcases ix_or c 61 (by decide) with z | ⟨L, hL, rfl⟩
  · exact absurd cin z
  have zr := zC_rw j hj
  have crj := cr_rw h.c hj
  obtain ⟨A, a1, a2, a3, a4⟩ := fillJ_eq (M := sI (sI (sI M1 (266 + 2 * j) 0 1) (266 + 2 * j) 1 (nI w)) (266 + 2 * j) 2 (nI L)) zr.2.2.2 (by decide)
  obtain ⟨B, b1, b2, b3, b4, b5⟩ := row57 hj (L := L) (by omega) FU 0 (sI (sI (sI M2 0 0 0) 1 j (nI w)) 2 j (nI L)) (by omega) (by unfold FU; omega) h'.r.I.I (fun i hi => by omega)
  have cA : CR A := fun x y q => (a2.gR x y).trans (h.c x y q)
  have rB : RR B := fun x y => by
    show B.2.2 x y = _
    rw [b3]
    exact h'.r x y
  rw [oC_0, gd_t, cr_0_5 h.c, bd_t, aB_t j zC_83 rfl hj (by decide), gd_t, nI_clamp (n := j) (by omega), crj.1, bd_t, zr.2.1, gd_t]
  unfold f_X8_begin
  rw [zr.2.1, gd_t, nx_t, nx_t, nx_t, show gR (sI (sI (sI M1 (266 + 2 * j) 0 1) (266 + 2 * j) 1 (nI w)) (266 + 2 * j) 2 (nI L)) (266 + 2 * j) 3 = some (267 + 2 * j) from crj.2, bd_t, a1, bd_t, bd_t, rr_1 h'.r, bd_t, aB_t j zR_1 rfl hj (by decide), gd_t, nx_t, rr_2 h'.r.I, bd_t, aB_t j zR_2 rfl hj (by decide), gd_t, nx_t, show f_X11_row_57 FU (sI (sI (sI M2 0 0 0) 1 j (nI w)) 2 j (nI L)) 0 (nI j) (nI L) 0 = some (B, 0) from b1]
  have gA : ∀ x y, gI A x y = gI (sI (sI (sI M1 (266 + 2 * j) 0 1) (266 + 2 * j) 1 (nI w)) (266 + 2 * j) 2 (nI L)) x y := fun x y => congrFun (congrFun a3 x) y
  have gB : ∀ x y, gI B x y = gI (sI (sI (sI M2 0 0 0) 1 j (nI w)) 2 j (nI L)) x y := fun x y => congrFun (congrFun b2 x) y
  have gA0 : ∀ x y, x ≠ 266 + 2 * j → gI A x y = gI M1 x y := fun x y q => by
    rw [gA, gI_sI, if_neg (fun z => q z.1), gI_sI, if_neg (fun z => q z.1), gI_sI, if_neg (fun z => q z.1)]
  have gLA : ∀ x y, x ≠ 267 + 2 * j → gL A x y = gL M1 x y := fun x y q => (a2.2 x q).2 y
  refine ⟨_, _, _, rfl, rfl, p, d, D, h'.rows cA rB (fun x y q => gA0 x y (by omega)) (fun x y q => gLA x y (by omega)) ⟨a2.gR 0 1, a2.gR 0 2⟩ (fun x y q1 q2 => by rw [gB, gI_sI, if_neg (fun z => q2 z.1), gI_sI, if_neg (fun z => q1 z.1)]) (fun i hi => ?_), hk.keep h.wf (a2.gR 84 10) (fun x q1 q2 k => gA0 x k (by omega)) (gA0 0 7 (by omega))⟩
  by_cases e : i = j
  · subst e
    refine Or.inr ⟨?_, w, L, by omega, by omega, ?_, ?_, ?_, ?_, fun y hy => ?_⟩
    · rw [gA, gI_sI, if_neg (by omega), gI_sI, if_neg (by omega), gI_sI, if_pos ⟨rfl, rfl⟩]
    · rw [gA, gI_sI, if_neg (by omega), gI_sI, if_pos ⟨rfl, rfl⟩]
    · rw [gB, gI_sI, if_neg (by omega), gI_sI, if_pos ⟨rfl, rfl⟩]
    · rw [gA, gI_sI, if_pos ⟨rfl, rfl⟩]
    · rw [gB, gI_sI, if_pos ⟨rfl, rfl⟩]
    · rw [a4 y (by omega), b4 y hy]
  · have r := h'.rw' i hi
    unfold RowR at r ⊢
    have o1 : ∀ y, gI A (266 + 2 * i) y = gI M1 (266 + 2 * i) y := fun y => gA0 _ y (by omega)
    have o2 : ∀ x, x = 1 ∨ x = 2 → gI B x i = gI (sI M2 0 0 0) x i := fun x hx => by
      rw [gB, gI_sI, if_neg (by omega), gI_sI, if_neg (by omega)]
    rw [o1, o1, o1, o2 1 (by decide), o2 2 (by decide)]
    rcases r with r | ⟨r1, w', n', r2, r3, r4, r5, r6, r7, r8⟩
    · exact Or.inl r
    · refine Or.inr ⟨r1, w', n', r2, r3, r4, r5, r6, r7, fun y hy => ?_⟩
      rw [gLA _ _ (by omega), b5 _ (by omega)]
      exact r8 y hy
theorem cut_eq {M1 M2 : Mem} {j w : Nat} {v : Int64} (ho : oB shC (266 + 2 * j) 8 = true) (hw : gI M1 (266 + 2 * j) 1 = nI w) : f_X8_cut M1 (266 + 2 * j) v = f_X11_cut M2 v (nI w) ∧ ∃ x, f_X11_cut M2 v (nI w) = some x := by
  constructor
  · unfold f_X8_cut f_X11_cut
    rw [ho, gd_t, hw]
  · unfold f_X11_cut
    split
    · exact ⟨_, rfl⟩
    · split
      · exact ⟨_, rfl⟩
      · split
        · exact ⟨_, rfl⟩
        · exact ⟨_, rfl⟩
theorem ne_1 {n : Nat} (h : n < 2 ^ 31) : ¬ nI n = (-1 : Int32) := ne_m1 h
/-- numbers of rows alone are other -/
theorem row_set {p d : Nat} {D : MK} {M1 M2 M1' M2' : Mem} {j w n : Nat} (h : Rel0 p d D M1 M2) (hj : j < 4) (i1 : M1'.1 = M1.1) (i2 : M1'.2.2 = M1.2.2) (i3 : ∀ a k, a ≠ 267 + 2 * j → gL M1' a k = gL M1 a k) (k1 : M2'.1 = M2.1) (k2 : M2'.2.2 = M2.2.2) (k3 : ∀ k, k < 60 * j ∨ 60 * j + 60 ≤ k → gL M2' 3 k = gL M2 3 k) (r1 : gI M1 (266 + 2 * j) 0 = 1) (hw : w ≤ 3) (hn : n ≤ 60) (r4 : gI M1 (266 + 2 * j) 1 = nI w) (r5 : gI M2 1 j = nI w) (r6 : gI M1 (266 + 2 * j) 2 = nI n) (r7 : gI M2 2 j = nI n) (r8 : ∀ i, i < n → gL M1' (267 + 2 * j) i = gL M2' 3 (60 * j + i)) : Rel0 p d D M1' M2' := by
  have gI1 : ∀ x y, gI M1' x y = gI M1 x y := fun x y => congrFun (congrFun i1 x) y
  have gI2 : ∀ x y, gI M2' x y = gI M2 x y := fun x y => congrFun (congrFun k1 x) y
  refine h.rows (fun x y q => by
    show M1'.2.2 x y = _
    rw [i2]
    exact h.c x y q) (fun x y => by
    show M2'.2.2 x y = _
    rw [k2]
    exact h.r x y) (fun x y _ => gI1 x y) (fun x y q => i3 x y (by omega)) ⟨by show M1'.2.2 0 1 = M1.2.2 0 1; rw [i2], by show M1'.2.2 0 2 = M1.2.2 0 2; rw [i2]⟩ (fun x y _ _ => gI2 x y) (fun i hi => ?_)
  by_cases e : i = j
  · subst e
    exact Or.inr ⟨by rw [gI1]; exact r1, w, n, hw, hn, by rw [gI1]; exact r4, by rw [gI2]; exact r5, by rw [gI1]; exact r6, by rw [gI2]; exact r7, r8⟩
  · have r := h.rw' i hi
    unfold RowR at r ⊢
    rw [gI1, gI1, gI1, gI2, gI2]
    rcases r with r | ⟨r1, w', n', r2, r3, r4, r5, r6, r7, r8⟩
    · exact Or.inl r
    · refine Or.inr ⟨r1, w', n', r2, r3, r4, r5, r6, r7, fun y hy => ?_⟩
      rw [i3 _ _ (by omega), k3 _ (by omega)]
      exact r8 y hy
theorem hk_L {M1 M1' : Mem} {p : Nat} {D : MK} (hk : HK M1 p D) (hW : WFD D) (i1 : M1'.1 = M1.1) (i2 : M1'.2.2 = M1.2.2) : HK M1' p D :=
  hk.keep hW (congrFun (congrFun i2 84) 10) (fun a _ _ k => congrFun (congrFun i1 a) k) (congrFun (congrFun i1 0) 7)
theorem eq_write {M1 M2 : Mem} (h : Rel M1 M2) (a b : Int32) (v : Int64) : Same (f_X10_write M1 0 a b v) (f_X11_write M2 0 a b v) := by
  obtain ⟨p, d, D, h, hk⟩ := h
  have h' := h.r0
  unfold f_X10_write f_X11_write
  rw [oR, gd_t, nx_t, isSlot1, bd_t, isSlot2, bd_t]
  rcases ix_or a 4 (by decide) with z | ⟨j, hj, rfl⟩
  · rw [if_neg z, if_pos rfl, if_pos rfl]
    exact same_no h' hk _
  have zr := zC_rw j hj
  have crj := cr_rw h.c hj
  rw [if_pos (ix_in hj (by decide)), if_neg (show ¬ (1 : Int32) = 0 by decide), if_neg (show ¬ (1 : Int32) = 0 by decide), oC_0, gd_t, cr_0_5 h.c, bd_t, aB_t j zC_83 rfl hj (by decide), gd_t, nI_clamp (n := j) (by omega), crj.1, bd_t, zr.2.1, gd_t, rr_1 h'.r, bd_t, aB_t j zR_1 rfl hj (by decide), gd_t]
  rcases h'.rw' j hj with ⟨r1, r2⟩ | ⟨r1, w, n, r2, r3, r4, r5, r6, r7, r8⟩
  · rw [r1, r2, if_pos rfl, if_pos rfl]
    exact same_no h' hk _
  rw [r1, r5, if_neg (show ¬ (1 : Int32) = 0 by decide), if_neg (ne_m1 (by omega)), rr_2 h'.r, bd_t, aB_t j zR_2 rfl hj (by decide), gd_t, nx_t, r6, r7, in0n (n := n) (by omega) rfl, bd_t, rngA b n (by omega) rfl]
  rcases ix_or b n (by omega) with z | ⟨i, hi, rfl⟩
  · rw [if_neg z, if_neg z, if_pos rfl]
    exact same_no h' hk _
  obtain ⟨c1, x, c2⟩ := cut_eq (M1 := M1) (M2 := sI M2 0 0 0) (v := v) zr.2.1 r4
  rw [if_pos (ix_in hi (by omega)), if_pos (ix_in hi (by omega)), if_neg (show ¬ (1 : Int32) = 0 by decide), crj.2, bd_t, c1, c2, bd_t, aB_t i zr.2.2.2 rfl (by omega) (by decide), gd_t, nx_t, nI_clamp (n := i) (by omega), rr_3 h'.r, bd_t, bd_t, m60, aB_t (60 * j + i) zR_3 rfl (by omega) (by decide), gd_t, nx_t, nI_clamp (n := 60 * j + i) (by omega)]
  refine ⟨_, _, _, rfl, rfl, p, d, D, row_set (w := w) (n := n) h' hj rfl rfl (fun y k q => ?_) rfl rfl (fun k q => ?_) r1 r2 r3 r4 r5 r6 r7 (fun y hy => ?_), hk_L hk h.wf rfl rfl⟩
  · rw [gL_sL, if_neg (fun z => q z.1)]
  · rw [gL_sL, if_neg (by omega)]
  · rw [gL_sL, gL_sL]
    by_cases e : y = i
    · rw [if_pos ⟨rfl, e⟩, if_pos ⟨rfl, by omega⟩]
    · rw [if_neg (by omega), if_neg (by omega)]
      exact r8 y hy
def Hd (a b : Int32) (n : Nat) : Prop := ∃ x y, a = nI x ∧ b = nI y ∧ x + y ≤ n
theorem holds_n {M : Mem} {q n : Nat} {a b : Int32} (ho : oB shC q 8 = true) (hn : n ≤ 60) (hL : gI M q 2 = nI n) (no : ¬ Hd a b n) : f_X8_holds M q a b = some 0 := by
  unfold f_X8_holds
  by_cases c0 : a < 0
  · rw [if_pos c0]
  by_cases c1 : b < 0
  · rw [if_neg c0, if_pos c1]
  rw [if_neg c0, if_neg c1, ho, gd_t, hL]
  obtain ⟨x, hx, rfl⟩ := nI_of c0
  obtain ⟨y, hy, rfl⟩ := nI_of c1
  by_cases e : n < x
  · rw [if_pos (nI_lt e hx)]
  rw [if_neg (nI_nlt (by omega) (by omega)), pk_sub (by omega)]
  by_cases e2 : n - x < y
  · rw [if_pos (nI_lt e2 hy)]
  · exact absurd ⟨x, y, rfl, rfl, by omega⟩ no
theorem holds_y {M : Mem} {q n x y : Nat} (ho : oB shC q 8 = true) (hn : n ≤ 60) (hL : gI M q 2 = nI n) (e : x + y ≤ n) : f_X8_holds M q (nI x) (nI y) = some 1 := by
  unfold f_X8_holds
  rw [if_neg (nI_pos (by omega)), if_neg (nI_pos (by omega)), ho, gd_t, hL, if_neg (nI_nlt (by omega) (by omega)), pk_sub (by omega), if_neg (nI_nlt (by omega) (by omega))]
theorem cmp_pos (x y : Int64) : 0 < lg_cmp x y ↔ y < x := by
  unfold lg_cmp
  by_cases h : x > y
  · rw [if_pos h]
    exact ⟨fun _ => h, fun _ => by decide⟩
  · rw [if_neg h]
    refine ⟨fun z => ?_, fun z => absurd z h⟩
    by_cases h2 : x = y
    · rw [if_pos h2] at z; exact absurd z (by decide)
    · rw [if_neg h2] at z; exact absurd z (by decide)
theorem sum64 {a b : Int32} {n : Nat} (hn : n ≤ 60) (ha : ¬ a < 0) (hb : ¬ b < 0) : (nI n).toInt64 < a.toInt64 + b.toInt64 ↔ ¬ Hd a b n := by
  obtain ⟨x, hx, rfl⟩ := nI_of ha
  obtain ⟨y, hy, rfl⟩ := nI_of hb
  rw [nI_l (by omega), nI_l hx, nI_l hy, lN_add, Int64.lt_iff_toInt_lt, lN_toInt (by omega), show (lN (x + y)).toInt = ((x + y : Nat) : Int) from lg_ofNat_toInt (by omega)]
  constructor
  · rintro h ⟨x', y', e1, e2, e3⟩
    have f1 := (nI_eq hx (by omega)).mp e1
    have f2 := (nI_eq hy (by omega)).mp e2
    omega
  · intro h
    rcases Nat.lt_or_ge n (x + y) with z | z
    · omega
    · exact absurd ⟨x, y, rfl, rfl, z⟩ h
theorem m60x (a b c : Nat) : (60 : Int32) * nI a + nI b + nI c = nI (60 * a + b + c) := by rw [m60, nI_add]
theorem paste155 {t x' y : Nat} (ht : t < 4) (hx : x' + y ≤ 60) : ∀ n k M, k ≤ y → y < n + k → RR M → ∃ M', f_X11_paste_155 n M 0 (nI t) (nI x') (nI y) (nI k) = some (M', 0) ∧ M'.1 = M.1 ∧ M'.2.2 = M.2.2 ∧ ∀ i, gL M' 3 i = if 60 * t + x' + k ≤ i ∧ i < 60 * t + x' + y then gL M 4 (i - (60 * t + x')) else gL M 3 i := by
  intro n
  induction n with
  | zero => intro k M h1 h2; omega
  | succ n ih =>
    intro k M h1 h2 hR
    show ∃ M', s_X11_paste_155 (f_X11_paste_155 n) M 0 (nI t) (nI x') (nI y) (nI k) = some (M', 0) ∧ _
    unfold s_X11_paste_155
    by_cases hk : k = y
    · rw [if_pos (by rw [hk]; exact nI_le (Nat.le_refl _) (by omega))]
      exact ⟨M, rfl, rfl, rfl, fun i => by rw [if_neg (by omega)]⟩
    rw [if_neg (nI_ge (by omega) (by omega)), oR, gd_t, rr_3 hR, bd_t, rr_4 hR, bd_t, aB_t k zR_4 rfl (by omega) (by decide), gd_t, m60x, aB_t (60 * t + x' + k) zR_3 rfl (by omega) (by decide), gd_t, nx_t, nI_clamp (n := k) (by omega), nI_clamp (n := 60 * t + x' + k) (by omega), nI_1]
    obtain ⟨M', e1, e2, e3, e4⟩ := ih (k + 1) (sL M 3 (60 * t + x' + k) (gL M 4 k)) (by omega) (by omega) hR.L
    refine ⟨M', e1, e2, e3, fun i => ?_⟩
    rw [e4]
    by_cases c : i = 60 * t + x' + k
    · subst c
      rw [if_neg (by omega), gL_sL, if_pos ⟨rfl, rfl⟩, if_pos (by omega), show 60 * t + x' + k - (60 * t + x') = k by omega]
    · by_cases c2 : 60 * t + x' + k ≤ i ∧ i < 60 * t + x' + y
      · rw [if_pos (by omega), if_pos c2, gL_sL, if_neg (by omega)]
      · rw [if_neg (by omega), if_neg c2, gL_sL, if_neg (by omega)]
theorem paste118 {j x t x' y : Nat} (hj : j < 4) (hx : x + y ≤ 60) (ht : t < 4) (hx' : x' + y ≤ 60) {M0 : Mem} : ∀ n k M, k ≤ y → y < n + k → RR M → M.1 = M0.1 → M.2.2 = M0.2.2 → (∀ i, gL M 3 i = gL M0 3 i) → (∀ i, i < k → gL M 4 i = gL M0 3 (60 * j + x + i)) → ∃ M', f_X11_paste_118 n M 0 (nI j) (nI x) (nI t) (nI x') (nI y) (nI k) = some (M', 0) ∧ M'.1 = M0.1 ∧ M'.2.2 = M0.2.2 ∧ ∀ i, gL M' 3 i = if 60 * t + x' ≤ i ∧ i < 60 * t + x' + y then gL M0 3 (60 * j + x + (i - (60 * t + x'))) else gL M0 3 i := by
  intro n
  induction n with
  | zero => intro k M h1 h2; omega
  | succ n ih =>
    intro k M h1 h2 hR i1 i2 i3 i4
    show ∃ M', s_X11_paste_118 (f_X11_paste_118 n) M 0 (nI j) (nI x) (nI t) (nI x') (nI y) (nI k) = some (M', 0) ∧ _
    unfold s_X11_paste_118
    by_cases hk : k = y
    · rw [if_pos (by rw [hk]; exact nI_le (Nat.le_refl _) (by omega))]
      obtain ⟨M', e1, e2, e3, e4⟩ := paste155 ht hx' FU 0 M (by omega) (by unfold FU; omega) hR
      refine ⟨M', e1, e2.trans i1, e3.trans i2, fun i => ?_⟩
      rw [e4]
      by_cases c : 60 * t + x' ≤ i ∧ i < 60 * t + x' + y
      · rw [if_pos (by omega), if_pos c, i4 _ (by omega)]
      · rw [if_neg (by omega), if_neg c, i3]
    rw [if_neg (nI_ge (by omega) (by omega)), oR, gd_t, rr_4 hR, bd_t, rr_3 hR, bd_t, m60x, aB_t (60 * j + x + k) zR_3 rfl (by omega) (by decide), gd_t, nx_t, aB_t k zR_4 rfl (by omega) (by decide), gd_t, nx_t, nI_clamp (n := 60 * j + x + k) (by omega), nI_clamp (n := k) (by omega), nI_1]
    refine ih (k + 1) _ (by omega) (by omega) hR.L i1 i2 (fun i => ?_) (fun i hi => ?_)
    · rw [gL_sL, if_neg (by omega)]
      exact i3 i
    · rw [gL_sL]
      by_cases e : i = k
      · rw [if_pos ⟨rfl, e⟩, i3, e]
      · rw [if_neg (by omega)]
        exact i4 i (by omega)
theorem gL_cpL (M : Mem) (s sp d dp n b j : Nat) : gL (cpL M s sp d dp n) b j = if b = d ∧ dp ≤ j ∧ j < dp + n then gL M s (sp + (j - dp)) else gL M b j := rfl
theorem cB_60 {s d x x' y : Nat} (hs : shC s = (101, 60)) (hd : shC d = (101, 60)) (h1 : x + y ≤ 60) (h2 : x' + y ≤ 60) : cB shC 1 s (nI x) d (nI x') (nI y) = true := by
  unfold cB
  rw [hs, hd, nI_clamp (by omega), nI_clamp (by omega), nI_clamp (by omega), decide_eq_false (nI_pos (by omega)), decide_eq_false (nI_pos (by omega)), decide_eq_false (nI_pos (by omega)), decide_eq_true h1, decide_eq_true h2]
  rfl
theorem eq_paste {M1 M2 : Mem} (h : Rel M1 M2) (a b c e f : Int32) : Same (f_X10_paste M1 0 a b c e f) (f_X11_paste M2 0 a b c e f) := by
  obtain ⟨p, d, D, h, hk⟩ := h
  have h' := h.r0
  unfold f_X10_paste f_X11_paste
  rw [oR, gd_t, nx_t, isSlot1, bd_t, isSlot2, bd_t]
  rcases ix_or a 4 (by decide) with z | ⟨j, hj, rfl⟩
  · rw [if_neg z, if_pos rfl, if_pos rfl]
    exact same_no h' hk _
  rw [if_pos (ix_in hj (by decide)), if_neg (show ¬ (1 : Int32) = 0 by decide), if_neg (show ¬ (1 : Int32) = 0 by decide), isSlot1, bd_t, isSlot2, bd_t]
  rcases ix_or c 4 (by decide) with z | ⟨t, ht, rfl⟩
  · rw [if_neg z, if_pos rfl, if_pos rfl]
    exact same_no h' hk _
  have zj := zC_rw j hj
  have zt := zC_rw t ht
  have cj := cr_rw h.c hj
  have ct := cr_rw h.c ht
  rw [if_pos (ix_in ht (by decide)), if_neg (show ¬ (1 : Int32) = 0 by decide), if_neg (show ¬ (1 : Int32) = 0 by decide), oC_0, gd_t, cr_0_5 h.c, bd_t, aB_t j zC_83 rfl hj (by decide), gd_t, aB_t t zC_83 rfl ht (by decide), nI_clamp (n := j) (by omega), nI_clamp (n := t) (by omega), cj.1, bd_t, gd_t, ct.1, bd_t, zj.2.1, gd_t, zt.2.1, gd_t, rr_1 h'.r, bd_t, aB_t j zR_1 rfl hj (by decide), gd_t, aB_t t zR_1 rfl ht (by decide), gd_t]
  rcases h'.rw' j hj with ⟨r1, r2⟩ | ⟨r1, w, n, r2, r3, r4, r5, r6, r7, r8⟩
  · rw [r1, r2, if_pos rfl, if_pos rfl]
    exact same_no h' hk _
  rcases h'.rw' t ht with ⟨u1, u2⟩ | ⟨u1, w', n', u2, u3, u4, u5, u6, u7, u8⟩
  · rw [r1, u1, u2, r5, if_neg (show ¬ (1 : Int32) = 0 by decide), if_neg (ne_m1 (by omega)), if_pos rfl, if_pos rfl]
    exact same_no h' hk _
  rw [r1, u1, r5, u5, r4, u4, if_neg (show ¬ (1 : Int32) = 0 by decide), if_neg (show ¬ (1 : Int32) = 0 by decide), if_neg (show ¬ nI w = -1 from ne_m1 (by omega)), if_neg (show ¬ nI w' = -1 from ne_m1 (by omega))]
  rcases Decidable.em (nI w = nI w') with ew | ew
  case' inr =>
    rw [if_neg ew, if_neg ew]
    exact same_no h' hk _
  rw [if_pos ew, if_pos ew]
  by_cases H1 : Hd b f n
  case' neg =>
    rw [holds_n zj.2.1 r3 r6 H1, bd_t, if_pos rfl]
    by_cases c0 : b < 0
    · rw [if_pos c0]
      exact same_no h' hk _
    rw [if_neg c0]
    by_cases c1 : e < 0
    · rw [if_pos c1]
      exact same_no h' hk _
    rw [if_neg c1]
    by_cases c2 : f < 0
    · rw [if_pos c2]
      exact same_no h' hk _
    rw [if_neg c2, rr_2 h'.r, bd_t, aB_t j zR_2 rfl hj (by decide), gd_t, nx_t, nx_t, r7, if_pos ((cmp_pos _ _).mpr ((sum64 r3 c0 c2).mpr H1))]
    exact same_no h' hk _
  obtain ⟨x, y, rfl, rfl, exy⟩ := id H1
  rw [holds_y zj.2.1 r3 r6 exy, bd_t, if_neg (show ¬ (1 : Int32) = 0 by decide), if_neg (show ¬ nI x < 0 from nI_pos (by omega))]
  have N1 : ¬ 0 < lg_cmp ((nI x).toInt64 + (nI y).toInt64) (nI n).toInt64 := fun z => (sum64 r3 (nI_pos (by omega)) (nI_pos (by omega))).mp ((cmp_pos _ _).mp z) H1
  by_cases H2 : Hd e (nI y) n'
  case' neg =>
    rw [holds_n zt.2.1 u3 u6 H2, bd_t, if_pos rfl]
    by_cases c1 : e < 0
    · rw [if_pos c1]
      exact same_no h' hk _
    rw [if_neg c1, if_neg (show ¬ nI y < 0 from nI_pos (by omega)), rr_2 h'.r, bd_t, aB_t j zR_2 rfl hj (by decide), gd_t, nx_t, nx_t, r7, if_neg N1, aB_t t zR_2 rfl ht (by decide), gd_t, nx_t, nx_t, u7, if_neg (Int32.not_le.mpr ((cmp_pos _ _).mpr ((sum64 u3 c1 (nI_pos (by omega))).mpr H2)))]
    exact same_no h' hk _
  obtain ⟨x', y', rfl, ey, exy'⟩ := id H2
  have hyy : y = y' := (nI_eq (by omega) (by omega)).mp ey
  subst hyy
  have N2 : lg_cmp ((nI x').toInt64 + (nI y).toInt64) (nI n').toInt64 ≤ 0 := Int32.not_lt.mp (fun z => (sum64 u3 (nI_pos (by omega)) (nI_pos (by omega))).mp ((cmp_pos _ _).mp z) H2)
  obtain ⟨B, b1, b2, b3, b4⟩ := paste118 (M0 := sI M2 0 0 0) hj (x := x) (t := t) (x' := x') (y := y) (by omega) ht (by omega) FU 0 (sI M2 0 0 0) (by omega) (by unfold FU; omega) h'.r rfl rfl (fun _ => rfl) (fun i hi => by omega)
  rw [holds_y zt.2.1 u3 u6 exy', bd_t, if_neg (show ¬ (1 : Int32) = 0 by decide), cj.2, bd_t, ct.2, bd_t, cB_60 zj.2.2.2 zt.2.2.2 (by omega) (by omega), gd_t, nx_t, nI_clamp (n := x) (by omega), nI_clamp (n := x') (by omega), nI_clamp (n := y) (by omega), if_neg (show ¬ nI x' < 0 from nI_pos (by omega)), if_neg (show ¬ nI y < 0 from nI_pos (by omega)), rr_2 h'.r, bd_t, aB_t j zR_2 rfl hj (by decide), gd_t, nx_t, nx_t, r7, if_neg N1, aB_t t zR_2 rfl ht (by decide), gd_t, nx_t, nx_t, u7, if_pos N2, show f_X11_paste_118 FU (sI M2 0 0 0) 0 (nI j) (nI x) (nI t) (nI x') (nI y) 0 = some (B, 0) from b1]
  refine ⟨_, _, _, rfl, rfl, p, d, D, row_set (w := w') (n := n') h' ht rfl rfl (fun q k hq => ?_) b2 b3 (fun k hq => ?_) u1 u2 u3 u4 u5 u6 u7 (fun i hi => ?_), hk_L hk h.wf rfl rfl⟩
  · rw [gL_cpL, if_neg (fun z => hq z.1)]
  · rw [b4, if_neg (by omega)]
  · rw [b4, gL_cpL]
    by_cases q : x' ≤ i ∧ i < x' + y
    · rw [if_pos ⟨rfl, q⟩, if_pos (by omega), r8 _ (by omega)]
      congr 1
      omega
    · rw [if_neg (fun z => q z.2), if_neg (by omega)]
      exact u8 i hi
