/-! PLAIN ANSWERS: what was told, the tape, rows, images -/
def SameV (M1 : Mem) (x : Option Int32) (y : Option (Mem × Int32)) : Prop := ∃ M2' r, x = some r ∧ y = some (M2', r) ∧ Rel M1 M2'
theorem sv_no {p d : Nat} {D : MK} {M1 M2 : Mem} (h : Rel0 p d D M1 M2) (hk : HK M1 p D) (r : Int32) : SameV M1 (some r) (some (M2, r)) := ⟨_, r, rfl, rfl, p, d, D, h, hk⟩
theorem HourC.keep {M M' : Mem} {b : Nat} {D : MK} (h : HourC M b D) (hN : kNs D ≤ 8 ∧ kNb D ≤ 6 ∧ kNr D ≤ 3) (g : gR M' 84 10 = gR M 84 10) (e : ∀ a, 84 ≤ a → a ≤ 141 → ∀ k, gI M' a k = gI M a k) : HourC M' b D := by
  obtain ⟨h1, h2, h3, ⟨c1, c2, c3, c4⟩, h5, h6, h7⟩ := h
  refine ⟨g.trans h1, fun r hr m hm => ?_, fun s hs m hm => ?_, ⟨?_, fun s hs => ?_, fun b hb => ?_, fun i hi => ?_⟩, fun s hs m hm => ?_, fun s hs m hm => ?_, fun s hs m hm => ?_⟩
  · rw [e _ (by omega) (by omega)]; exact h2 r hr m hm
  · rw [e _ (by omega) (by omega)]; exact h3 s hs m hm
  · rw [e _ (by omega) (by omega)]; exact c1
  · simp only [e 129 (by decide) (by decide), e 130 (by decide) (by decide), e 131 (by decide) (by decide), e 132 (by decide) (by decide)]; exact c2 s hs
  · simp only [e 133 (by decide) (by decide), e (135 + b) (by omega) (by omega), e 141 (by decide) (by decide), e 128 (by decide) (by decide)]; exact c3 b hb
  · simp only [e 124 (by decide) (by decide), e 125 (by decide) (by decide), e 126 (by decide) (by decide), e 127 (by decide) (by decide)]; exact c4 i hi
  · rw [e _ (by omega) (by omega)]; exact h5 s hs m hm
  · rw [e _ (by omega) (by omega)]; exact h6 s hs m hm
  · rw [e _ (by omega) (by omega)]; exact h7 s hs m hm
theorem HK.keep {M M' : Mem} {b : Nat} {D : MK} (h : HK M b D) (hW : WFD D) (g : gR M' 84 10 = gR M 84 10) (e : ∀ a, 84 ≤ a → a ≤ 141 → ∀ k, gI M' a k = gI M a k) (e7 : gI M' 0 7 = gI M 0 7) : HK M' b D := by
  rcases h with h | h
  · exact Or.inl (e7.trans h)
  · exact Or.inr (h.keep ⟨hW.n.2.1, hW.n.2.2, hW.n.1⟩ g e)
theorem eqV_stall {M1 M2 : Mem} (h : Rel M1 M2) (a b : Int32) : SameV M1 (f_X10_stall M1 0 a b) (f_X11_stall M2 0 a b) := by
  obtain ⟨p, d, D, h, hk⟩ := h
  obtain ⟨M2', r, e1, e2, e3⟩ := eq_stall h a b
  exact ⟨M2', r, e1, e2, p, d, D, h.keepR e3, hk⟩
theorem eqV_buyer {M1 M2 : Mem} (h : Rel M1 M2) (a b : Int32) : SameV M1 (f_X10_buyer M1 0 a b) (f_X11_buyer M2 0 a b) := by
  obtain ⟨p, d, D, h, hk⟩ := h
  have h' := h.r0
  have hb := h.ba
  unfold f_X10_buyer f_X11_buyer
  rw [oC_0, gd_t, h.g1, bd_t, h.oP, gd_t, oR, gd_t, nx_t, gB1 h, bd_t, gB2 h', bd_t]
  rcases ix_or a (kNb D) (by omega) with z | ⟨x, hx, rfl⟩
  · rw [if_neg z, if_pos rfl, if_pos rfl]
    exact sv_no h' hk _
  obtain ⟨g1, g2, g3, g4, g5⟩ := by_rd h hx
  rw [if_pos (ix_in hx (by omega)), if_neg (show ¬ (1 : Int32) = 0 by decide), if_neg (show ¬ (1 : Int32) = 0 by decide), in_c 4 (by decide) (by decide), bd_t, g1, bd_t, g2, gd_t, g3, bd_t, g4, gd_t, gd_t, gd_t, gd_t]
  rcases ix_or b 4 (by decide) with z | ⟨j, hj, rfl⟩
  · rw [if_neg (show ¬ b = 0 from ne_out z (k := 0) (by decide) (by decide)), if_neg (show ¬ b = 1 from ne_out z (k := 1) (by decide) (by decide)), if_neg (show ¬ b = 2 from ne_out z (k := 2) (by decide) (by decide)), if_neg (show ¬ b = 3 from ne_out z (k := 3) (by decide) (by decide)), if_neg z, if_pos rfl]
    exact sv_no h' hk _
  rw [if_pos (ix_in hj (by decide)), if_neg (show ¬ (1 : Int32) = 0 by decide), rr_20 h'.r, bd_t, m4, aB_t (4 * x + j) zR_10 rfl (by omega) (by decide), gd_t, nx_t, nI_clamp (by omega), show gI (sI M2 0 0 0) 10 (4 * x + j) = nI (kBy D x j) by simpa using (h'.rm.1.2.2.2 x hx).1 j hj]
  rcases j4 hj with rfl | rfl | rfl | rfl
  · rw [if_pos (show nI 0 = 0 from rfl), g5 0 (by decide)]
    exact sv_no h' hk _
  · rw [if_neg (show ¬ nI 1 = 0 by decide), if_pos (show nI 1 = 1 from rfl), g5 1 (by decide)]
    exact sv_no h' hk _
  · rw [if_neg (show ¬ nI 2 = 0 by decide), if_neg (show ¬ nI 2 = 1 by decide), if_pos (show nI 2 = 2 from rfl), g5 2 (by decide)]
    exact sv_no h' hk _
  · rw [if_neg (show ¬ nI 3 = 0 by decide), if_neg (show ¬ nI 3 = 1 by decide), if_neg (show ¬ nI 3 = 2 by decide), if_pos (show nI 3 = 3 from rfl), g5 3 (by decide)]
    exact sv_no h' hk _
theorem m9 (a w j : Nat) : (9 : Int32) * nI a + 3 * nI w + nI j = nI (9 * a + 3 * w + j) := by
  rw [show (9 : Int32) = nI 9 from rfl, show (3 : Int32) = nI 3 from rfl, pk_mul, pk_mul, nI_add, nI_add]
theorem eqV_want {M1 M2 : Mem} (h : Rel M1 M2) (a i b : Int32) : SameV M1 (f_X10_want M1 0 a i b) (f_X11_want M2 0 a i b) := by
  obtain ⟨p, d, D, h, hk⟩ := h
  have h' := h.r0
  have hb := h.ba
  unfold f_X10_want f_X11_want
  rw [oC_0, gd_t, h.g1, bd_t, h.oP, gd_t, oR, gd_t, nx_t, gB1 h, bd_t, gB2 h', bd_t]
  rcases ix_or a (kNb D) (by omega) with z | ⟨x, hx, rfl⟩
  · rw [if_neg z, if_pos rfl, if_pos rfl]
    exact sv_no h' hk _
  obtain ⟨g1, g2, g3, g4, g5⟩ := by_rd h hx
  have hw3 := (h.wf.2.2.2.2.2.2 x hx).2.2.2.1
  have ms := (mb_sh p h.mb).2.2.2.2.2.2 x (by omega)
  rw [if_pos (ix_in hx (by omega)), if_neg (show ¬ (1 : Int32) = 0 by decide), if_neg (show ¬ (1 : Int32) = 0 by decide), g1, bd_t, g2, gd_t, g3, bd_t, g4, gd_t, g5 3 (by decide), rr_20 h'.r, bd_t, m4_3, aB_t (4 * x + 3) zR_10 rfl (by omega) (by decide), gd_t, nx_t, nI_clamp (n := 4 * x + 3) (by omega), show gI (sI M2 0 0 0) 10 (4 * x + 3) = nI (kBy D x 3) by simpa using (h'.rm.1.2.2.2 x hx).1 3 (by decide), in0n (n := kBy D x 3) (by omega) rfl, bd_t, rngA i (kBy D x 3) (by omega) rfl]
  rcases ix_or i (kBy D x 3) (by omega) with z | ⟨w, hw, rfl⟩
  · rw [if_neg z, if_neg z, if_pos rfl]
    exact sv_no h' hk _
  rw [if_pos (ix_in hw (by omega)), if_pos (ix_in hw (by omega)), if_neg (show ¬ (1 : Int32) = 0 by decide), in_c 3 (by decide) (by decide), bd_t, mk_b4 h.c h.mb (by omega), bd_t, mk_b5 h.c h.mb (by omega), bd_t, mk_b6 h.c h.mb (by omega), bd_t, aB_t w ms.2.1 rfl (by omega) (by decide), gd_t, aB_t w ms.2.2.1 rfl (by omega) (by decide), gd_t, aB_t w ms.2.2.2 rfl (by omega) (by decide), gd_t]
  have c := (h.cm.2.2.2 x hx).2 w hw
  rcases ix_or b 3 (by decide) with z | ⟨j, hj, rfl⟩
  · rw [if_neg (show ¬ b = 0 from ne_out z (k := 0) (by decide) (by decide)), if_neg (show ¬ b = 1 from ne_out z (k := 1) (by decide) (by decide)), if_neg (show ¬ b = 2 from ne_out z (k := 2) (by decide) (by decide)), if_neg z, if_pos rfl]
    exact sv_no h' hk _
  rw [if_pos (ix_in hj (by decide)), if_neg (show ¬ (1 : Int32) = 0 by decide), rr_21 h'.r, bd_t, m9, aB_t (9 * x + 3 * w + j) zR_11 rfl (by omega) (by decide), gd_t, nx_t, nI_clamp (n := 9 * x + 3 * w + j) (by omega), show gI (sI M2 0 0 0) 11 (9 * x + 3 * w + j) = nI (kWt D x w j) by simpa using (h'.rm.1.2.2.2 x hx).2 w hw j hj]
  rcases j3 hj with rfl | rfl | rfl
  · rw [if_pos (show nI 0 = 0 from rfl), nI_clamp (by omega), c.1]
    exact sv_no h' hk _
  · rw [if_neg (show ¬ nI 1 = 0 by decide), if_pos (show nI 1 = 1 from rfl), nI_clamp (by omega), c.2.1]
    exact sv_no h' hk _
  · rw [if_neg (show ¬ nI 2 = 0 by decide), if_neg (show ¬ nI 2 = 1 by decide), if_pos (show nI 2 = 2 from rfl), nI_clamp (by omega), c.2.2]
    exact sv_no h' hk _
theorem Rel0.tp {p d : Nat} {D : MK} {M1 M2 : Mem} (h : Rel0 p d D M1 M2) : TapeR M1 M2 := h.2.2.2.2.2.2.2.2.2.2.2
theorem Rel0.im {p d : Nat} {D : MK} {M1 M2 : Mem} (h : Rel0 p d D M1 M2) : ∀ j, j < 3 → ImgR M1 M2 j := h.2.2.2.2.2.2.2.2.2.1
theorem Rel0.rw' {p d : Nat} {D : MK} {M1 M2 : Mem} (h : Rel0 p d D M1 M2) : ∀ j, j < 4 → RowR M1 M2 j := h.2.2.2.2.2.2.2.2.2.2.1
theorem eqV_fault {M1 M2 : Mem} (h : Rel M1 M2) (a : Int32) : SameV M1 (f_X10_fault M1 0 a) (f_X11_fault M2 0 a) := by
  obtain ⟨p, d, D, h, hk⟩ := h
  have h' := h.r0
  obtain ⟨L, -, -, -, -, t1, t2⟩ := h'.tp
  unfold f_X10_fault f_X11_fault
  rw [oR, gd_t, nx_t, oC_0, gd_t, gd_t, cr_0_0 h.c, bd_t, bd_t, oC_1, gd_t, gd_t, t1, t2]
  by_cases c0 : a = 0
  · rw [if_pos c0, if_pos c0]
    exact sv_no h' hk _
  rw [if_neg c0, if_neg c0]
  by_cases c1 : a = 1
  · rw [if_pos c1, if_pos c1]
    exact sv_no h' hk _
  rw [if_neg c1, if_neg c1]
  exact sv_no h' hk _
/-- the tape is another -/
theorem Rel0.tape {p d : Nat} {D : MK} {M1 M2 M1' M2' : Mem} (h : Rel0 p d D M1 M2) (c1 : M1'.2 = M1.2) (c2 : ∀ a k, ¬ (a = 2 ∨ (a = 1 ∧ k = 1)) → gI M1' a k = gI M1 a k) (r1 : M2'.2 = M2.2) (r2 : ∀ a k, ¬ (a = 5 ∨ (a = 0 ∧ (k = 0 ∨ k = 6))) → gI M2' a k = gI M2 a k) (ht : ∃ L : Nat, L ≤ 2000 ∧ gI M1' 1 1 = nI L ∧ gI M2' 0 6 = nI L ∧ ∀ i, i < L → gI M1' 2 i = gI M2' 5 i) : Rel0 p d D M1' M2' := by
  have hp := p_or h
  obtain ⟨a1, a2, a3, a4, a5, a6, a7, a8, a9, a10, a11, a12⟩ := h
  have gL1 : ∀ a k, gL M1' a k = gL M1 a k := fun a k => by
    show M1'.2.1 a k = M1.2.1 a k
    rw [c1]
  have gR1 : ∀ a k, gR M1' a k = gR M1 a k := fun a k => by
    show M1'.2.2 a k = M1.2.2 a k
    rw [c1]
  have gL2 : ∀ a k, gL M2' a k = gL M2 a k := fun a k => by
    show M2'.2.1 a k = M2.2.1 a k
    rw [r1]
  have gR2 : ∀ a k, gR M2' a k = gR M2 a k := fun a k => by
    show M2'.2.2 a k = M2.2.2 a k
    rw [r1]
  refine ⟨fun a k q => (gR1 a k).trans (a1 a k q), fun a k => (gR2 a k).trans (a2 a k), (gR1 _ _).trans a3, (gR1 _ _).trans a4, a5, a6, a7, a8.keep a6.n (fun a z1 z2 => ⟨fun k => c2 a k (by omega), fun k => gL1 a k⟩), a9.cp a6 (fun q w hq k hk => r2 _ _ (by rcases cpL_or hq with z | z | z | z | z | z | z <;> omega)), fun j hj => ?_, fun j hj => ?_, ?_⟩
  · exact (a10 j hj).keep (c2 82 j (by omega)) (r2 13 j (by omega)) (fun a z => ⟨fun k => c2 a k (by unfold inB at z; omega), fun k => gL1 a k⟩) (fun q w hq k hk => r2 _ _ (by rcases cpL_or hq with z | z | z | z | z | z | z <;> omega))
  · exact (a11 j hj).keep hj (fun a z1 z2 => ⟨fun k => c2 a k (by omega), fun k => gL1 a k⟩) (fun a k z => r2 a k (by omega)) (fun k => gL2 3 k)
  · obtain ⟨L, l1, l2, l3, l4⟩ := ht
    obtain ⟨L', -, -, -, -, t1, t2⟩ := a12
    exact ⟨L, l1, l2, l3, l4, by rw [c2 1 2 (by omega), r2 0 14 (by omega)]; exact t1, by rw [c2 1 3 (by omega), r2 0 15 (by omega)]; exact t2⟩
theorem eq_end {M1 M2 : Mem} (h : Rel M1 M2) (a : Int32) : Same (f_X10_end M1 0 a) (f_X11_end M2 0 a) := by
  obtain ⟨p, d, D, h, hk⟩ := h
  have h' := h.r0
  obtain ⟨L, l1, l2, l3, l4, -⟩ := h'.tp
  unfold f_X10_end f_X11_end
  rw [oR, gd_t, nx_t, oC_0, gd_t, cr_0_0 h.c, bd_t, oC_1, gd_t, l2, l3, show nI L = nI (L + 1) - 1 from (nI_pred L).symm, in0n (n := L + 1) (by omega) rfl, bd_t, rng a (L + 1) (by omega) rfl]
  rcases ix_or a (L + 1) (by omega) with z | ⟨j, hj, rfl⟩
  · rw [if_neg z, if_neg z, if_pos rfl]
    exact same_no h' hk _
  rw [if_pos (ix_in hj (by omega)), if_pos (ix_in hj (by omega)), if_neg (show ¬ (1 : Int32) = 0 by decide), nx_t, nx_t]
  refine ⟨_, _, _, rfl, rfl, p, d, D, h'.tape rfl (fun a k z => by rw [gI_sI, if_neg (by omega)]) rfl (fun a k z => by rw [gI_sI, if_neg (by omega)]) ⟨j, by omega, by rw [gI_sI, if_pos ⟨rfl, rfl⟩], by rw [gI_sI, if_pos ⟨rfl, rfl⟩], fun i hi => ?_⟩, hk.keep h.wf rfl (fun a z1 z2 k => by rw [gI_sI, if_neg (by omega)]) (by rw [gI_sI, if_neg (by omega)])⟩
  rw [gI_sI, if_neg (by omega), gI_sI, if_neg (by omega)]
  exact l4 i (by omega)
/-- four bytes more -/
def inF1 (a k : Nat) : Prop := a = 2 ∨ (a = 1 ∧ k = 1)
def inF2 (a k : Nat) : Prop := a = 5 ∨ (a = 0 ∧ (k = 0 ∨ k = 6))
def TpL (M1 M2 : Mem) (L : Nat) : Prop := gI M1 1 1 = nI L ∧ gI M2 0 6 = nI L ∧ ∀ i, i < L → gI M1 2 i = gI M2 5 i
theorem add_step {M1 M2 : Mem} {L : Nat} {v x : Int32} (h1 : CR M1) (h2 : RR M2) (ht : TpL M1 M2 L) (hL : L < 2000) (hx : ¬ x < 0) : ∃ M1' M2', (∀ n, f_X6_add_3 (n + 1) M1 1 v x = f_X6_add_3 n M1' 1 v (x + -8)) ∧ (∀ n, f_X11_four_3 (n + 1) M2 0 v x = f_X11_four_3 n M2' 0 v (x + -8)) ∧ TpL M1' M2' (L + 1) ∧ OnlyK inF1 M1 M1' ∧ OnlyK inF2 M2 M2' := by
  obtain ⟨t1, t2, t3⟩ := ht
  refine ⟨sI (sI M1 2 L (vp_nar .byte (((v >>> (x &&& 31)) : Int32).toInt8.toInt32))) 1 1 (nI (L + 1)), sI (sI M2 5 L (vp_nar .byte (((v >>> (x &&& 31)) : Int32).toInt8.toInt32))) 0 6 (nI (L + 1)), fun n => ?_, fun n => ?_, ⟨?_, ?_, fun i hi => ?_⟩, (OnlyK.rf.I (Or.inl rfl)).I (Or.inr ⟨rfl, rfl⟩), (OnlyK.rf.I (Or.inl rfl)).I (Or.inr ⟨rfl, Or.inr rfl⟩)⟩
  · show s_X6_add_3 (f_X6_add_3 n) M1 1 v x = _
    unfold s_X6_add_3
    rw [if_neg hx, oC_1, gd_t, t1, if_neg (show ¬ (2000 : Int32) ≤ nI L from nI_ge (b := 2000) hL (by decide)), cr_1_0 h1, bd_t, aB_t L zC_2 rfl hL (by decide), gd_t, nx_t, nx_t, nI_clamp (by omega), gI_sI, if_neg (by omega), t1, nI_1]
  · show s_X11_four_3 (f_X11_four_3 n) M2 0 v x = _
    unfold s_X11_four_3
    rw [if_neg hx, oR, gd_t, t2, rr_5 h2, bd_t, aB_t L zR_5 rfl hL (by decide), gd_t, nx_t, nx_t, nI_clamp (by omega), gI_sI, if_neg (by omega), t2, nI_1]
  · rw [gI_sI, if_pos ⟨rfl, rfl⟩]
  · rw [gI_sI, if_pos ⟨rfl, rfl⟩]
  · rw [gI_sI, if_neg (show ¬ (2 = 1 ∧ i = 1) by omega), gI_sI, gI_sI, if_neg (show ¬ (5 = 0 ∧ i = 6) by omega), gI_sI]
    by_cases e : i = L
    · rw [if_pos ⟨rfl, e⟩, if_pos ⟨rfl, e⟩]
    · rw [if_neg (by omega), if_neg (by omega)]
      exact t3 i (by omega)
theorem add_eq {M1 M2 : Mem} {L : Nat} {v : Int32} (h1 : CR M1) (h2 : RR M2) (ht : TpL M1 M2 L) (hL : L + 4 ≤ 2000) : ∃ M1' M2', f_X6_add M1 1 v = some M1' ∧ f_X11_four M2 0 v = some M2' ∧ TpL M1' M2' (L + 4) ∧ OnlyK inF1 M1 M1' ∧ OnlyK inF2 M2 M2' ∧ CR M1' ∧ RR M2' := by
  have oc : ∀ {M M' : Mem}, OnlyK inF1 M M' → CR M → CR M' := fun h hc a k q => by
    show _ = _
    rw [show gR _ a k = gR _ a k from congrFun (congrFun (congrArg Prod.snd h.1) a) k]
    exact hc a k q
  obtain ⟨A1, B1, a1, b1, t1, o1, q1⟩ := add_step (v := v) (x := 24) h1 h2 ht (by omega) (by decide)
  obtain ⟨A2, B2, a2, b2, t2, o2, q2⟩ := add_step (v := v) (x := 16) (oc o1 h1) (q1.RR h2) t1 (by omega) (by decide)
  obtain ⟨A3, B3, a3, b3, t3, o3, q3⟩ := add_step (v := v) (x := 8) (oc o2 (oc o1 h1)) (q2.RR (q1.RR h2)) t2 (by omega) (by decide)
  obtain ⟨A4, B4, a4, b4, t4, o4, q4⟩ := add_step (v := v) (x := 0) (oc o3 (oc o2 (oc o1 h1))) (q3.RR (q2.RR (q1.RR h2))) t3 (by omega) (by decide)
  refine ⟨A4, B4, ?_, ?_, t4, ((o1.tr o2).tr o3).tr o4, ((q1.tr q2).tr q3).tr q4, oc o4 (oc o3 (oc o2 (oc o1 h1))), q4.RR (q3.RR (q2.RR (q1.RR h2)))⟩
  · show f_X6_add_3 (3999 + 1) M1 1 v 24 = _
    rw [a1 3999, show (24 : Int32) + -8 = 16 by decide]
    show f_X6_add_3 (3998 + 1) A1 1 v 16 = _
    rw [a2 3998, show (16 : Int32) + -8 = 8 by decide]
    show f_X6_add_3 (3997 + 1) A2 1 v 8 = _
    rw [a3 3997, show (8 : Int32) + -8 = 0 by decide]
    show f_X6_add_3 (3996 + 1) A3 1 v 0 = _
    rw [a4 3996]
    show s_X6_add_3 (f_X6_add_3 3995) A4 1 v (0 + -8) = _
    unfold s_X6_add_3
    rw [if_pos (by decide)]
  · show f_X11_four_3 (3999 + 1) M2 0 v 24 = _
    rw [b1 3999, show (24 : Int32) + -8 = 16 by decide]
    show f_X11_four_3 (3998 + 1) B1 0 v 16 = _
    rw [b2 3998, show (16 : Int32) + -8 = 8 by decide]
    show f_X11_four_3 (3997 + 1) B2 0 v 8 = _
    rw [b3 3997, show (8 : Int32) + -8 = 0 by decide]
    show f_X11_four_3 (3996 + 1) B3 0 v 0 = _
    rw [b4 3996]
    show s_X11_four_3 (f_X11_four_3 3995) B4 0 v (0 + -8) = _
    unfold s_X11_four_3
    rw [if_pos (by decide)]
theorem eq_feed {M1 M2 : Mem} (h : Rel M1 M2) (a b c e f : Int32) : Same (f_X10_feed M1 0 a b c e f) (f_X11_feed M2 0 a b c e f) := by
  obtain ⟨p, d, D, h, hk⟩ := h
  have h' := h.r0
  obtain ⟨L, l1, l2, l3, l4, -⟩ := h'.tp
  unfold f_X10_feed f_X11_feed
  rw [oR, gd_t, nx_t, oC_0, gd_t, cr_0_0 h.c, bd_t, oC_1, gd_t, l2, l3, show nI L + 20 = nI (L + 20) from nI_add L 20]
  by_cases c0 : L ≤ 1980
  · rw [if_pos (show nI L ≤ 1980 from nI_le (b := 1980) c0 (by decide)), if_pos (show nI (L + 20) ≤ 2000 from nI_le (b := 2000) (by omega) (by decide))]
    obtain ⟨A1, B1, a1, b1, t1, o1, q1, c1, r1⟩ := add_eq (v := a) h.c h'.r ⟨l2, l3, l4⟩ (by omega)
    obtain ⟨A2, B2, a2, b2, t2, o2, q2, c2, r2⟩ := add_eq (v := b) c1 r1 t1 (by omega)
    obtain ⟨A3, B3, a3, b3, t3, o3, q3, c3, r3⟩ := add_eq (v := c) c2 r2 t2 (by omega)
    obtain ⟨A4, B4, a4, b4, t4, o4, q4, c4, r4⟩ := add_eq (v := e) c3 r3 t3 (by omega)
    obtain ⟨A5, B5, a5, b5, t5, o5, q5, c5, r5⟩ := add_eq (v := f) c4 r4 t4 (by omega)
    have o := (((o1.tr o2).tr o3).tr o4).tr o5
    have q := (((q1.tr q2).tr q3).tr q4).tr q5
    rw [a1, bd_t, cr_0_0 c1, bd_t, oC_1, gd_t, a2, bd_t, cr_0_0 c2, bd_t, oC_1, gd_t, a3, bd_t, cr_0_0 c3, bd_t, oC_1, gd_t, a4, bd_t, cr_0_0 c4, bd_t, oC_1, gd_t, a5, bd_t, cr_0_0 c5, bd_t, oC_1, gd_t, b1, bd_t, b2, bd_t, b3, bd_t, b4, bd_t, b5, bd_t, t5.1, t5.2.1]
    refine ⟨_, _, _, rfl, rfl, p, d, D, h'.tape o.1 (fun a k z => o.2 a k z) q.1 (fun a k z => q.2 a k z) ⟨_, by omega, t5.1, t5.2.1, t5.2.2⟩, hk.keep h.wf (congrFun (congrFun (congrArg Prod.snd o.1) 84) 10) (fun a z1 z2 k => o.2 a k (by unfold inF1; omega)) (o.2 0 7 (by unfold inF1; omega))⟩
  · rw [if_neg (show ¬ nI L ≤ 1980 from nI_ge (a := 1980) (by omega) (by omega)), if_neg (show ¬ nI (L + 20) ≤ 2000 from nI_ge (a := 2000) (by omega) (by omega))]
    exact same_no h' hk _
/-! images -/
theorem zC_im : ∀ j, j < 3 → CRf 81 j = some (149 + 39 * j) ∧ mutB 81 j = false ∧ 149 + 39 * j ∈ MB := by decide +kernel
theorem cr_im {M : Mem} (h : CR M) {j : Nat} (hj : j < 3) : gR M 81 j = some (149 + 39 * j) := (h _ _ (zC_im j hj).2.1).trans (zC_im j hj).1
theorem n1_1 (k : Nat) : (1 : Int32) + nI k = nI (1 + k) := nI_add 1 k
theorem eq_keep {M1 M2 : Mem} (h : Rel M1 M2) (a : Int32) : Same (f_X10_keep M1 0 a) (f_X11_keep M2 0 a) := by
  obtain ⟨p, d, D, h, hk⟩ := h
  have h' := h.r0
  have hp := p_or h
  unfold f_X10_keep f_X11_keep
  rw [oR, gd_t, nx_t, in_c 3 (by decide) (by decide), bd_t, rngA a 3 (hi := 3) (by decide) rfl]
  rcases ix_or a 3 (by decide) with z | ⟨x, hx, rfl⟩
  · rw [if_neg z, if_neg z, if_pos rfl]
    exact same_no h' hk _
  have zi := zC_im x hx
  obtain ⟨A, e1, e2, e3⟩ := take_eq zi.2.2 h.mb (by omega) h.c h.wf h.cm
  obtain ⟨B, b1, b2, b3⟩ := copyMarket_eq (a := 0) (b := 1 + x) (x := 0) h'.r (by decide) (by omega) (by omega) rfl rfl
  have hR := b2.RR h'.r
  rw [if_pos (ix_in hx (by decide)), if_pos (ix_in hx (by decide)), if_neg (show ¬ (1 : Int32) = 0 by decide), oC_0, gd_t, cr_0_3 h.c, bd_t, aB_t x zC_81 rfl hx (by decide), gd_t, nI_clamp (n := x) (by omega), cr_im h.c hx, bd_t, h.g1, bd_t, (mb_sh _ zi.2.2).1, gd_t, e1, bd_t, cr_0_4 (e2.CR h.c), bd_t, aB_t x zC_82 rfl hx (by decide), gd_t, nx_t, n1_1, b1, bd_t, rr_23 hR, bd_t, aB_t x zR_13 rfl hx (by decide), gd_t, nx_t]
  have eC : ∀ q, q ≠ 82 → ∀ k, gI (sI A 82 x (vp_nar .boolean 1)) q k = gI A q k := fun q hq k => by rw [gI_sI, if_neg (fun z => hq z.1)]
  have eR : ∀ q, q ≠ 13 → ∀ k, gI (sI B 13 x (vp_nar .boolean 1)) q k = gI B q k := fun q hq k => by rw [gI_sI, if_neg (fun z => hq z.1)]
  have nsl : ∀ q k, q < 6 ∨ 12 < q → ¬ slR (1 + x) q k := fun q k hq => by
    rintro ⟨w, hw, -⟩
    rcases cpL_or hw with z | z | z | z | z | z | z <;> omega
  refine ⟨_, _, _, rfl, rfl, p, d, D, ⟨(e2.CR h.c).I, hR.I, (e2.gR 0 1).trans h.g1, (e2.gR 0 2).trans h.g2, h.2.2.2.2.1, h.wf, h.st, ?_, ?_, fun j hj => ?_, fun j hj => ?_, ?_⟩, ?_⟩
  · exact h.cm.keep h.wf.n (fun q z1 z2 => ⟨fun k => by rw [eC q (by omega)]; exact (e2.2 q (by unfold inB; omega)).1 k, fun k => (e2.2 q (by unfold inB; omega)).2 k⟩)
  · exact h'.rm.cp h.wf (fun q w hq k hk => by
      rw [eR q (by rcases cpL_or hq with z | z | z | z | z | z | z <;> omega)]
      exact b2.2 _ _ (slR_ne (by omega) hq hk))
  · by_cases e : j = x
    · subst e
      exact Or.inr ⟨by rw [gI_sI, if_pos ⟨rfl, rfl⟩]; rfl, by rw [gI_sI, if_pos ⟨rfl, rfl⟩]; rfl, D, h.wf, h.st, e3.keep h.wf.n (fun q z1 z2 => ⟨fun k => eC q (by omega) k, fun k => rfl⟩), h'.rm.cp h.wf (fun q w hq k hk => by
        rw [eR q (by rcases cpL_or hq with z | z | z | z | z | z | z <;> omega)]
        exact b3 q w hq k hk)⟩
    · exact (h'.im j hj).keep (by rw [gI_sI, if_neg (by omega)]; exact (e2.2 82 (by unfold inB; omega)).1 j) (by rw [gI_sI, if_neg (by omega)]; exact b2.2 13 j (nsl 13 j (by omega))) (fun q z => by
        unfold inB at z
        exact ⟨fun k => by rw [eC q (by omega)]; exact (e2.2 q (by unfold inB; omega)).1 k, fun k => (e2.2 q (by unfold inB; omega)).2 k⟩) (fun q w hq k hk => by
        rw [eR q (by rcases cpL_or hq with z | z | z | z | z | z | z <;> omega)]
        exact b2.2 _ _ (slR_ne (by omega) hq hk))
  · exact (h'.rw' j hj).keep hj (fun q z1 z2 => ⟨fun k => by rw [eC q (by omega)]; exact (e2.2 q (by unfold inB; omega)).1 k, fun k => (e2.2 q (by unfold inB; omega)).2 k⟩) (fun q k z => by rw [eR q (by omega)]; exact b2.2 _ _ (nsl q k (by omega))) (fun k => by
      show B.2.1 3 k = _
      rw [b2.1]
      rfl)
  · exact h'.tp.keep (fun q k z => by rw [eC q (by omega)]; exact (e2.2 q (by unfold inB; omega)).1 k) (fun q k z => by rw [eR q (by omega)]; exact b2.2 _ _ (nsl q k (by omega)))
  · exact hk.keep h.wf (e2.gR 84 10) (fun q z1 z2 k => by rw [eC q (by omega)]; exact (e2.2 q (by unfold inB; omega)).1 k) (by rw [eC 0 (by omega)]; exact (e2.2 0 (by unfold inB; omega)).1 7)
theorem eq_back {M1 M2 : Mem} (h : Rel M1 M2) (a : Int32) : Same (f_X10_back M1 0 a) (f_X11_back M2 0 a) := by
  obtain ⟨p, d, D, h, hk⟩ := h
  have h' := h.r0
  have hp := p_or h
  unfold f_X10_back f_X11_back
  rw [oR, gd_t, nx_t, in_c 3 (by decide) (by decide), bd_t, rngA a 3 (hi := 3) (by decide) rfl]
  rcases ix_or a 3 (by decide) with z | ⟨x, hx, rfl⟩
  · rw [if_neg z, if_neg z, if_pos rfl]
    exact same_no h' hk _
  have zi := zC_im x hx
  rw [if_pos (ix_in hx (by decide)), if_pos (ix_in hx (by decide)), if_neg (show ¬ (1 : Int32) = 0 by decide), oC_0, gd_t, cr_0_4 h.c, bd_t, aB_t x zC_82 rfl hx (by decide), gd_t, nI_clamp (n := x) (by omega), rr_23 h'.r, bd_t, aB_t x zR_13 rfl hx (by decide), gd_t]
  rcases h'.im x hx with ⟨g1, g2⟩ | ⟨g1, g2, D', g3, g4, g5, g6⟩
  · rw [g1, g2, if_pos rfl, if_pos rfl]
    exact same_no h' hk _
  obtain ⟨A, e1, e2, e3⟩ := take_eq h.mb zi.2.2 (by omega) h.c g3 g5
  obtain ⟨B, b1, b2, b3⟩ := copyMarket_eq (a := 1 + x) (b := 0) (y := 0) h'.r (by omega) (by decide) (by omega) rfl rfl
  have hR := b2.RR h'.r
  rw [g1, g2, if_neg (show ¬ (1 : Int32) = 0 by decide), if_neg (show ¬ (1 : Int32) = 0 by decide), h.g1, bd_t, cr_0_3 h.c, bd_t, aB_t x zC_81 rfl hx (by decide), gd_t, cr_im h.c hx, bd_t, h.oP, gd_t, e1, bd_t, nx_t, n1_1, b1, bd_t]
  have nsl : ∀ q k, q < 6 ∨ 12 < q → ¬ slR 0 q k := fun q k hq => by
    rintro ⟨w, hw, -⟩
    rcases cpL_or hw with z | z | z | z | z | z | z <;> omega
  refine ⟨_, _, _, rfl, rfl, p, d, D', h'.mk' (e2.CR h.c).I hR (e2.gR 0 1) (e2.gR 0 2) g3 g4 (e3.i0 g3 (by omega)) (g6.cp g3 b3) (fun q z => ⟨fun k => ?_, fun k => (e2.2 q (by unfold inB; omega)).2 k⟩) (fun q k z => b2.2 _ _ (nsl q k (by omega))) (fun k => ?_) (fun j hj q w hq k hk => b2.2 _ _ (slR_ne (by omega) hq hk)), Or.inl ?_⟩
  · rw [gI_sI, if_neg (by omega)]
    exact (e2.2 q (by unfold inB; omega)).1 k
  · show B.2.1 3 k = _
    rw [b2.1]
    rfl
  · rw [gI_sI, if_pos ⟨rfl, rfl⟩]
