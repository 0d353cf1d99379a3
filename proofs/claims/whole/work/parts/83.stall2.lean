/-! A STALL's LINE, read by both; A BUYER's -/
section L4
variable {L : Nat} {B : Nat → Int32} {d n : Nat} {D : MK} {M1 M2 M1' M2' : Mem}
theorem m7i (a b : Nat) : (7 : Int32) * nI a + nI b = nI (7 * a + b) := mk_ix 7 rfl a b
theorem stall_line {a e t : Nat} (hd : d = 3 ∨ d = 42) (h : MkR d D M1 M2) (hl : 0 < kLn D) (hll : kLn D < 2000) (ha : n ≤ a) (hG : PG L B M1 M2 a e t) : ∃ M1' M2', f_X6_readStall M1 1 d = some M1' ∧ f_X11_line_72 M2 0 3 = some M2' ∧ LnE L B n d (kLn D) M1 M2 M1' M2' := by
  have hdm : d ∈ MB := by rcases hd with rfl | rfl <;> decide
  have ms := mb_sh d hdm
  have hW := h.1
  have hN := hW.n
  have hkP := hW.p
  have hCh := h.2.2.1.1
  have hRh := h.2.2.2.1.h4
  have hR := hG.1.2.1
  rw [l72_3 hR, hRh.2.2.2.2.1]
  unfold f_X6_readStall
  rw [ms.1, gd_t, oC_1, gd_t, hCh.2.2.2.2.1]
  by_cases hn : kNs D = 8
  · obtain ⟨Ma, Mb, a1, a2, a3, a4, a5⟩ := hG.fail (k := 3) (by decide) (by decide)
    rw [full_yes (m := 8) (x := 8) rfl (by decide) (by omega) (by omega) a1, bd_t, if_pos (show nI (kNs D) = 8 by rw [hn]; rfl), l141_bad a2 a5.n]
    dsimp only
    rw [if_neg (show ¬ (1 : Int32) = 0 by decide)]
    exact ⟨Ma, Mb, rfl, rfl, LnE.pb a3 a4 a5⟩
  have hk : kNs D < 8 := by omega
  rw [full_no (m := 8) (x := 8) rfl (by decide) hk, bd_t, if_neg (nI_neL (x := 8) 8 rfl hn (by omega) (by decide))]
  dsimp only
  obtain ⟨x, hx⟩ : ∃ x, x = d + 7 + kNs D := ⟨_, rfl⟩
  have ix : inB d x := by unfold inB; omega
  have iD : inB d d := by unfold inB; omega
  have ox : oB shC x 9 = true := by rw [hx]; exact ms.2.2.2.2.2.1 (kNs D) (by omega)
  obtain ⟨i0, hi0⟩ : ∃ i, i = 7 * (32 + kNs D) := ⟨_, rfl⟩
  obtain ⟨Ma, Mb, a', e', t', a1, a2, a3, a4, a5, a6⟩ := hG.next
  have hS : SP L B n True Ma Mb := Or.inl ⟨⟨a', e', t', by have := hG.2.1.1; omega, a6⟩, trivial⟩
  have oMa : OnT kC M1 Ma := a3.mono (fun _ => tkC_k)
  have oMb : OnN kN M2 Mb := a4.mono (fun _ => tkR_k)
  have cNr : gI Ma d 3 = nI (kNr D) := by rw [oMa.2 _ _ (by omega), hCh.2.2.2.1]
  have vNr : gI Mb 7 26 = nI (kNr D) := by rw [oMb.2.1 _ _ (by omega), hRh.2.2.2.1]
  have vNs : gI Mb 7 27 = nI (kNs D) := by rw [oMb.2.1 _ _ (by omega), hRh.2.2.2.2.1]
  -- ring
  obtain ⟨B0, v0, Z0, w0, b1, b2, b3, b4, b5, b6, b7, b8, b9⟩ := fld_n (x := x) (j := 0) (c := 9) (i := i0) (l := 0) (H := kNr D) (lo := 0) (hi := nI (kNr D) - 1) rfl rfl (by omega) (by omega) (by omega) (by decide) hS oMa oMb
  -- place
  obtain ⟨C1, B1, v1, Z1, w1, c1, c2, c3, c4, c5, c6, c7, c8, c9, c10, c11, c12⟩ := fld_w (i0 := 11) (w := 47) (x := x) (j := 1) (c := 9) (i := i0 + 1) (l := 0) (H := kP D) (lo := 0) (hi := nI (kP D) - 1) wT_c.2.2.2.2.2.2.2.2.2.2.2.1.symm (by decide) rfl rfl (by omega) (by omega) (by omega) (by decide) b9 b5 b6
  obtain ⟨C2, B2, v2, Z2, w2, d1, d2, d3, d4, d5, d6, d7, d8, d9, d10, d11, d12⟩ := fld_w (i0 := 12) (w := 10204885) (x := x) (j := 2) (c := 9) (i := i0 + 2) (l := 0) (H := 6) (lo := 0) (hi := 5) wT_c.2.2.2.2.2.2.2.2.2.2.2.2.1.symm (by decide) rfl (by decide) (by omega) (by omega) (by omega) (by decide) c12 c7 c8
  obtain ⟨C3, B3, v3, Z3, w3, e1, e2, e3, e4, e5, e6, e7, e8, e9, e10, e11, e12⟩ := fld_w (i0 := 13) (w := 234466237) (x := x) (j := 3) (c := 9) (i := i0 + 3) (l := 0) (H := 21) (lo := 0) (hi := 20) wT_c.2.2.2.2.2.2.2.2.2.2.2.2.2.1.symm (by decide) rfl (by decide) (by omega) (by omega) (by omega) (by decide) d12 d7 d8
  obtain ⟨C4, B4, v4, Z4, w4, f1, f2, f3, f4, f5, f6, f7, f8, f9, f10, f11, f12⟩ := fld_w (i0 := 14) (w := 8863997) (x := x) (j := 4) (c := 9) (i := i0 + 4) (l := 0) (H := 100) (lo := 0) (hi := 99) wT_c.2.2.2.2.2.2.2.2.2.2.2.2.2.2.1.symm (by decide) rfl (by decide) (by omega) (by omega) (by omega) (by decide) e12 e7 e8
  have cP : gI C1 d 0 = nI (kP D) := by rw [c4.2 _ _ (by omega), gI_sI, if_neg (by omega), hCh.1]
  have vP : gI (sI Z0 9 i0 w0) 7 24 = nI (kP D) := by rw [b6.2.1 _ _ (by omega), gI_sI, if_neg (by omega), hRh.1]
  have kc5 : KpC d M1 (sI B4 x 4 v4) := (((((KpC.rf.I (Or.inl ix)).I (Or.inl ix)).I (Or.inl ix)).I (Or.inl ix)).I (Or.inl ix)).tr (KpC.T f7)
  have kr5 : KpR M2 (sI Z4 9 (i0 + 4) w4) := (((((KpR.rf.I (sl_9 (by omega))).I (sl_9 (by omega))).I (sl_9 (by omega))).I (sl_9 (by omega))).I (sl_9 (by omega))).tr (KpR.N f8)
  -- what the class does ahead of the kind
  have hcl : ∀ {M1'}, bd (f_X6_readKind (sI B4 x 4 v4) 1 x) (rsE x d) = some M1' → (bd (gR M1 d 7) fun r4 => gd (aB shC r4 5 (gI M1 d 4)) <| bd (gR M1 r4 ((gI M1 d 4) : Int32).toNatClampNeg) fun r6 => bd (f_X6_next M1 1) fun u7 => bd (f_X6_number u7 1 0 ((gI u7 d 3) - 1)) fun u8 => gd (oB shC r6 9) <| nx (sI u8.1 r6 0 u8.2) fun M10 => bd (f_X6_word M10 1 11) fun u11 => bd (f_X6_number u11 1 0 ((gI u11 d 0) - 1)) fun u12 => nx (sI u12.1 r6 1 u12.2) fun M13 => bd (f_X6_word M13 1 12) fun u14 => bd (f_X6_number u14 1 0 5) fun u15 => nx (sI u15.1 r6 2 u15.2) fun M16 => bd (f_X6_word M16 1 13) fun u17 => bd (f_X6_number u17 1 0 20) fun u18 => nx (sI u18.1 r6 3 u18.2) fun M19 => bd (f_X6_word M19 1 14) fun u20 => bd (f_X6_number u20 1 0 99) fun u21 => nx (sI u21.1 r6 4 u21.2) fun M22 => bd (f_X6_readKind M22 1 r6) fun u23 => if (gI u23 r6 5) = 0 then f_X6_readStall_138 u23 d 0 r6 else bd (f_X6_number u23 1 1 20) fun u24 => f_X6_readStall_138 u24.1 d u24.2 r6) = some M1' := fun {M1'} hh => by
    rw [mk_7 hG.1.1 hdm, bd_t, hCh.2.2.2.2.1, aB_t (kNs D) ms.2.2.1 rfl (by omega) (by decide), gd_t, nI_clamp (by omega), mk_s hG.1.1 hdm (by omega), bd_t, ← hx, a1, bd_t, cNr, b1, bd_t, ox, gd_t, nx_t, c1, bd_t, cP, c2, bd_t, nx_t, d1, bd_t, d2, bd_t, nx_t, e1, bd_t, e2, bd_t, nx_t, f1, bd_t, f2, bd_t, nx_t]
    exact hh
  have m232 : (7 : Int32) * (32 + nI (kNs D)) = nI i0 := by rw [hi0, show (32 : Int32) = nI 32 from rfl, nI_add, show (7 : Int32) = nI 7 from rfl, pk_mul]
  have hrf : ∀ {M2'}, rsR (nI i0) (sI Z4 9 (i0 + 4) w4) = some M2' → f_X11_line_146 M2 0 3 = some M2' := fun {M2'} hh => by
    unfold f_X11_line_146 f_X11_stallLine
    rw [oR, gd_t, if_pos hG.2.2.2.1, a2, bd_t, if_neg (show ¬ (3 : Int32) = 2 by decide), if_pos rfl, gd_t, hasRead_eq hS.r (j := 3) (x := 3) (by decide) rfl, bd_t, vNs, rr_19 hS.r, bd_t, hasRead_eq hS.r (j := 2) (x := 2) (by decide) rfl, bd_t, vNr, b2, bd_t, m232, aB_t i0 zR_9 rfl (by omega) (by decide), gd_t, nx_t, nI_clamp (n := i0) (by omega), rr_19 b9.r, bd_t, hasRead_eq b9.r (j := 0) (x := 0) (by decide) rfl, bd_t, vP, c3, bd_t, show nI i0 + 1 = nI (i0 + 1) from nI_add _ 1, aB_t (i0 + 1) zR_9 rfl (by omega) (by decide), gd_t, nx_t, nI_clamp (n := i0 + 1) (by omega), rr_19 c12.r, bd_t, d3, bd_t, show nI i0 + 2 = nI (i0 + 2) from nI_add _ 2, aB_t (i0 + 2) zR_9 rfl (by omega) (by decide), gd_t, nx_t, nI_clamp (n := i0 + 2) (by omega), rr_19 d12.r, bd_t, e3, bd_t, show nI i0 + 3 = nI (i0 + 3) from nI_add _ 3, aB_t (i0 + 3) zR_9 rfl (by omega) (by decide), gd_t, nx_t, nI_clamp (n := i0 + 3) (by omega), rr_19 e12.r, bd_t, f3, bd_t, show nI i0 + 4 = nI (i0 + 4) from nI_add _ 4, aB_t (i0 + 4) zR_9 rfl (by omega) (by decide), gd_t, nx_t, nI_clamp (n := i0 + 4) (by omega)]
    exact congrArg (fun z => bd z fun u7 => some u7) hh
  by_cases g : gI (sI Z4 9 (i0 + 4) w4) 0 12 = 0
  case' neg =>
    have hPB := f12.bad g
    obtain ⟨Mk, k1, k2, k3⟩ := kind_pb ox ix hd hPB
    obtain ⟨Me, r1, r2, r3⟩ := rsE_pb ms.1 ox (by omega) ix hd k3
    refine ⟨Me, sI Z4 9 (i0 + 4) w4, hcl (by rw [k1, bd_t, r1]), hrf ?_, Or.inr r3, (kc5.tr k2).tr r2, kr5⟩
    unfold rsR f_X11_stallLine_149
    rw [hPB.is, bd_t, if_pos rfl, hPB.is, bd_t, if_pos rfl, hPB.is, bd_t, if_pos rfl, if_pos rfl, oR, gd_t, hPB.fails, bd_t, s160_bad g]
  obtain ⟨⟨a7, e7', t7, ha7, hG7⟩, ⟨⟨⟨⟨⟨-, y0, -, y0b, ey0, ez0⟩, y1, -, y1b, ey1, ez1⟩, y2, -, y2b, ey2, ez2⟩, y3, -, y3b, ey3, ez3⟩, y4, -, y4b, ey4, ez4⟩⟩ := f12.good g
  have cc4 : gI (sI B4 x 4 v4) d 4 = nI (kNs D) := by rw [f7.2 _ _ (by omega), gI_sI, if_neg (by omega), gI_sI, if_neg (by omega), gI_sI, if_neg (by omega), gI_sI, if_neg (by omega), gI_sI, if_neg (by omega), hCh.2.2.2.2.1]
  have cc27 : gI (sI Z4 9 (i0 + 4) w4) 7 27 = nI (kNs D) := by rw [f8.2.1 _ _ (by omega), gI_sI, if_neg (by omega), gI_sI, if_neg (by omega), gI_sI, if_neg (by omega), gI_sI, if_neg (by omega), gI_sI, if_neg (by omega), hRh.2.2.2.2.1]
  obtain ⟨A', Z', k1, k2, k3, k4, k5⟩ := kind_both (n := n) (x := x) (i5 := i0) ms.1 ox (by omega) ix hd (by omega) ha7 hG7 cc4 cc27
  refine ⟨A', Z', hcl k1, hrf k2, ?_, kc5.tr k3, kr5.tr k4⟩
  rcases k5 with ⟨a9, e9', t9, ha9, hG9, κ, σ, An, Zn, q1, q2, q3, q4, q5, q6⟩ | hB
  case' inr => exact Or.inr hB
  refine Or.inl ⟨⟨a9, e9', t9, ha9, hG9⟩, insD D 3 (kNs D) (fun j => if j = 0 then y0 else if j = 1 then y1 else if j = 2 then y2 else if j = 3 then y3 else if j = 4 then y4 else if j = 5 then κ else σ) 4, ?_, rfl⟩
  have p3 : OnT kC (sI (sI (sI (sI (sI (sI M1 x 0 v0) x 1 v1) x 2 v2) x 3 v3) x 4 v4) x 5 (nI κ)) An := (f7.w).tr q3
  have p5 : OnN kN (sI (sI (sI (sI (sI (sI M2 9 i0 w0) 9 (i0 + 1) w1) 9 (i0 + 2) w2) 9 (i0 + 3) w3) 9 (i0 + 4) w4) 9 (i0 + 5) (nI κ)) Zn := (f8.w).tr q5
  subst q4
  subst q6
  refine h.stall hl hll hk ?_ (fun a k z1 z2 z3 => ?_) (fun a k z1 => ?_) (fun j hj => ?_) ?_ ?_ (fun a k z1 z2 z3 z4 z5 => ?_) (fun j hj => ?_) ?_ ?_ hd
  · simp only [if_true, show ¬ (1 : Nat) = 0 by decide, show ¬ (2 : Nat) = 0 by decide, show ¬ (2 : Nat) = 1 by decide, show ¬ (3 : Nat) = 0 by decide, show ¬ (3 : Nat) = 1 by decide, show ¬ (3 : Nat) = 2 by decide, show ¬ (4 : Nat) = 0 by decide, show ¬ (4 : Nat) = 1 by decide, show ¬ (4 : Nat) = 2 by decide, show ¬ (4 : Nat) = 3 by decide, show ¬ (5 : Nat) = 0 by decide, show ¬ (5 : Nat) = 1 by decide, show ¬ (5 : Nat) = 2 by decide, show ¬ (5 : Nat) = 3 by decide, show ¬ (5 : Nat) = 4 by decide, show ¬ (6 : Nat) = 0 by decide, show ¬ (6 : Nat) = 1 by decide, show ¬ (6 : Nat) = 2 by decide, show ¬ (6 : Nat) = 3 by decide, show ¬ (6 : Nat) = 4 by decide, show ¬ (6 : Nat) = 5 by decide, if_false]
    exact ⟨y0b, y1b, by omega, by omega, by omega, q1, q2⟩
  · have z1' : ¬ (a = 1 ∧ kC k) := fun z => by unfold inB kC at *; omega
    rw [gI_sI, if_neg (by omega), gI_sI, if_neg (by omega), gI_sI, if_neg (by omega), p3.2 _ _ z1', gI_sI, if_neg (by omega), gI_sI, if_neg (by omega), gI_sI, if_neg (by omega), gI_sI, if_neg (by omega), gI_sI, if_neg (by omega), gI_sI, if_neg (by omega)]
  · show gL An a k = _
    rw [p3.gL]
    rfl
  · rw [gI_sI, if_neg (by omega), gI_sI, if_neg (by omega), gI_sI]
    by_cases c6 : j = 6
    · rw [if_pos ⟨hx.symm, c6⟩, c6]
      rfl
    · rw [if_neg (fun z => c6 z.2), p3.2 _ _ (by omega)]
      have hj' : j = 0 ∨ j = 1 ∨ j = 2 ∨ j = 3 ∨ j = 4 ∨ j = 5 := by omega
      rcases hj' with rfl | rfl | rfl | rfl | rfl | rfl
      · rw [gI_sI, if_neg (by omega), gI_sI, if_neg (by omega), gI_sI, if_neg (by omega), gI_sI, if_neg (by omega), gI_sI, if_neg (by omega), gI_sI, if_pos ⟨hx.symm, rfl⟩, ey0]; rfl
      · rw [gI_sI, if_neg (by omega), gI_sI, if_neg (by omega), gI_sI, if_neg (by omega), gI_sI, if_neg (by omega), gI_sI, if_pos ⟨hx.symm, rfl⟩, ey1]; rfl
      · rw [gI_sI, if_neg (by omega), gI_sI, if_neg (by omega), gI_sI, if_neg (by omega), gI_sI, if_pos ⟨hx.symm, rfl⟩, ey2]; rfl
      · rw [gI_sI, if_neg (by omega), gI_sI, if_neg (by omega), gI_sI, if_pos ⟨hx.symm, rfl⟩, ey3]; rfl
      · rw [gI_sI, if_neg (by omega), gI_sI, if_pos ⟨hx.symm, rfl⟩, ey4]; rfl
      · rw [gI_sI, if_pos ⟨hx.symm, rfl⟩]; rfl
  · rw [gI_sI, if_neg (by omega), gI_sI, if_pos ⟨rfl, rfl⟩]
  · rw [gI_sI, if_pos ⟨rfl, rfl⟩]
  · rw [gI_sI, if_neg (by omega), gI_sI, if_neg (by omega), gI_sI, if_neg (by omega), p5.2.1 _ _ (by omega), gI_sI, if_neg (by omega), gI_sI, if_neg (by omega), gI_sI, if_neg (by omega), gI_sI, if_neg (by omega), gI_sI, if_neg (by omega), gI_sI, if_neg (by omega)]
  · rw [gI_sI, if_neg (by omega), gI_sI, if_neg (by omega), gI_sI]
    by_cases c6 : j = 6
    · rw [if_pos ⟨rfl, by omega⟩, c6]
      rfl
    · rw [if_neg (by omega), p5.2.1 _ _ (by omega)]
      have hj' : j = 0 ∨ j = 1 ∨ j = 2 ∨ j = 3 ∨ j = 4 ∨ j = 5 := by omega
      rcases hj' with rfl | rfl | rfl | rfl | rfl | rfl
      · rw [gI_sI, if_neg (by omega), gI_sI, if_neg (by omega), gI_sI, if_neg (by omega), gI_sI, if_neg (by omega), gI_sI, if_neg (by omega), gI_sI, if_pos ⟨rfl, by omega⟩, ez0]; rfl
      · rw [gI_sI, if_neg (by omega), gI_sI, if_neg (by omega), gI_sI, if_neg (by omega), gI_sI, if_neg (by omega), gI_sI, if_pos ⟨rfl, by omega⟩, ez1]; rfl
      · rw [gI_sI, if_neg (by omega), gI_sI, if_neg (by omega), gI_sI, if_neg (by omega), gI_sI, if_pos ⟨rfl, by omega⟩, ez2]; rfl
      · rw [gI_sI, if_neg (by omega), gI_sI, if_neg (by omega), gI_sI, if_pos ⟨rfl, by omega⟩, ez3]; rfl
      · rw [gI_sI, if_neg (by omega), gI_sI, if_pos ⟨rfl, by omega⟩, ez4]; rfl
      · rw [gI_sI, if_pos ⟨rfl, by omega⟩]; rfl
  · rw [gI_sI, if_neg (by omega), gI_sI, if_pos ⟨rfl, rfl⟩]
  · rw [gI_sI, if_pos ⟨rfl, rfl⟩]
end L4
