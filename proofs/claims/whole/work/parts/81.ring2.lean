/-! A RING's LINE, read by both -/
section L2
variable {L : Nat} {B : Nat → Int32} {d n : Nat} {D : MK} {M1 M2 M1' M2' : Mem}
theorem PB.sp {n : Nat} {P : Prop} (h : PB L B M1 M2) : SP L B n P M1 M2 := Or.inr h
theorem bI_z {b : Bool} : isZ (bI b) = true := by cases b <;> rfl
theorem full_no {M : Mem} {k m : Nat} {x : Int32} (hx : x = nI m) (hm : m < 100) (h : k < m) : f_X6_isFull M 1 (nI k) x = some (M, 0) := by
  subst hx
  unfold f_X6_isFull f_X6_isFull_10
  rw [if_pos (nI_lt h (by omega)), if_pos (nI_lt h (by omega))]
theorem full_yes {M M' : Mem} {k m : Nat} {x : Int32} (hx : x = nI m) (hm : m < 100) (hk : k < 100) (h : m ≤ k) (hr : f_X6_refuse M 1 3 = some M') : f_X6_isFull M 1 (nI k) x = some (M', 1) := by
  subst hx
  unfold f_X6_isFull f_X6_isFull_10
  rw [if_neg (nI_nlt h (by omega)), oC_1, gd_t, hr, bd_t, if_neg (nI_nlt h (by omega))]
theorem l146_bad {M : Mem} {x : Int32} (g : ¬ gI M 0 12 = 0) : f_X11_line_146 M 0 x = some M := by
  unfold f_X11_line_146
  rw [oR, gd_t, if_neg g]
theorem l141_bad {M M' : Mem} {x : Int32} (h : f_X11_fails M 0 3 = some M') (g : ¬ gI M' 0 12 = 0) : f_X11_line_141 M 0 x = some M' := by
  unfold f_X11_line_141
  rw [oR, gd_t, h, bd_t, l146_bad g]
theorem l72_2 {M : Mem} (hR : RR M) : f_X11_line_72 M 0 2 = if gI M 7 26 = 3 then f_X11_line_141 M 0 2 else f_X11_line_146 M 0 2 := by
  unfold f_X11_line_72 f_X11_line_83 f_X11_line_97 f_X11_line_112 f_X11_line_127
  rw [if_neg (by decide), if_pos rfl, oR, gd_t, hasRead_eq hR (j := 2) (x := 2) (by decide) rfl, bd_t, if_neg (show ¬ (2 : Int32) = 3 by decide), if_neg (show ¬ (2 : Int32) = 4 by decide), if_neg (show ¬ (2 : Int32) = 5 by decide)]
theorem l72_3 {M : Mem} (hR : RR M) : f_X11_line_72 M 0 3 = if gI M 7 27 = 8 then f_X11_line_141 M 0 3 else f_X11_line_146 M 0 3 := by
  unfold f_X11_line_72 f_X11_line_83 f_X11_line_97 f_X11_line_112 f_X11_line_127
  rw [if_neg (by decide), if_neg (by decide), if_pos rfl, oR, gd_t, hasRead_eq hR (j := 3) (x := 3) (by decide) rfl, bd_t, if_neg (show ¬ (3 : Int32) = 4 by decide), if_neg (show ¬ (3 : Int32) = 5 by decide)]
theorem l72_4 {M : Mem} (hR : RR M) : f_X11_line_72 M 0 4 = if gI M 7 28 = 6 then f_X11_line_141 M 0 4 else f_X11_line_146 M 0 4 := by
  unfold f_X11_line_72 f_X11_line_83 f_X11_line_97 f_X11_line_112 f_X11_line_127
  rw [if_neg (by decide), if_neg (by decide), if_neg (by decide), if_pos rfl, oR, gd_t, hasRead_eq hR (j := 4) (x := 4) (by decide) rfl, bd_t, if_neg (show ¬ (4 : Int32) = 5 by decide)]
theorem l72_5 {M : Mem} (hR : RR M) : f_X11_line_72 M 0 5 = if gI M 7 29 = 4 then f_X11_line_141 M 0 5 else f_X11_line_146 M 0 5 := by
  unfold f_X11_line_72 f_X11_line_83 f_X11_line_97 f_X11_line_112 f_X11_line_127
  rw [if_neg (by decide), if_neg (by decide), if_neg (by decide), if_neg (by decide), if_pos rfl, oR, gd_t, hasRead_eq hR (j := 5) (x := 5) (by decide) rfl, bd_t]
theorem l72_9 {M : Mem} : f_X11_line_72 M 0 9 = f_X11_line_146 M 0 9 := by
  unfold f_X11_line_72 f_X11_line_83 f_X11_line_97 f_X11_line_112 f_X11_line_127
  rw [if_neg (by decide), if_neg (by decide), if_neg (by decide), if_neg (by decide), if_neg (by decide)]
/-- a line that there are too many of, or that is none -/
theorem LnE.pb {ln : Nat} (o1 : OnT kC M1 M1') (o2 : OnN kN M2 M2') (h : PB L B M1' M2') : LnE L B n d ln M1 M2 M1' M2' := ⟨Or.inr h, KpC.T o1, KpR.N o2⟩
theorem c75 {M Mn : Mem} {x : Nat} (ms : oB shC d 4 = true) (ox : oB shC x 7 = true) (h : f_X6_next M 1 = some Mn) (hx : x ≠ d) : f_X6_readRing_75 M 1 d x = some (sI (sL Mn x 2 0) d 3 (gI Mn d 3 + 1)) := by
  unfold f_X6_readRing_75
  rw [oC_1, gd_t, h, bd_t, ox, gd_t, nx_t, ms, gd_t, nx_t, gI_sL]
theorem ring_line {a e t : Nat} (hd : d = 3 ∨ d = 42) (h : MkR d D M1 M2) (hl : 0 < kLn D) (hll : kLn D < 2000) (ha : n ≤ a) (hG : PG L B M1 M2 a e t) : ∃ M1' M2', f_X6_readRing M1 1 d = some M1' ∧ f_X11_line_72 M2 0 2 = some M2' ∧ LnE L B n d (kLn D) M1 M2 M1' M2' := by
  have hdm : d ∈ MB := by rcases hd with rfl | rfl <;> decide
  have ms := mb_sh d hdm
  have hn3 : kNr D ≤ 3 := h.1.2.1
  have c3 : gI M1 d 3 = nI (kNr D) := h.2.2.1.1.2.2.2.1
  have r3 : gI M2 7 26 = nI (kNr D) := h.2.2.2.1.h4.2.2.2.1
  have hR := hG.1.2.1
  rw [l72_2 hR, r3]
  unfold f_X6_readRing
  rw [ms.1, gd_t, oC_1, gd_t, c3]
  by_cases hn : kNr D = 3
  · obtain ⟨Ma, Mb, a1, a2, a3, a4, a5⟩ := hG.fail (k := 3) (by decide) (by decide)
    rw [full_yes (m := 3) (x := 3) rfl (by decide) (by omega) (by omega) a1, bd_t, if_pos (show nI (kNr D) = 3 by rw [hn]; rfl), l141_bad a2 a5.n]
    dsimp only
    rw [if_neg (show ¬ (1 : Int32) = 0 by decide)]
    exact ⟨Ma, Mb, rfl, rfl, LnE.pb a3 a4 a5⟩
  have hk : kNr D < 3 := by omega
  rw [full_no (m := 3) (x := 3) rfl (by decide) hk, bd_t, if_neg (nI_neL (x := 3) 3 rfl hn (by omega) (by decide))]
  dsimp only
  have iB : inB d (d + 4 + kNr D) := by unfold inB; omega
  have iD : inB d d := by unfold inB; omega
  obtain ⟨Ma, Mb, a', e', t', a1, a2, a3, a4, a5, a6⟩ := hG.next
  have hS : SP L B n True Ma Mb := Or.inl ⟨⟨a', e', t', by have := hG.2.1.1; omega, a6⟩, trivial⟩
  have oMa : OnT kC M1 Ma := a3.mono (fun _ => tkC_k)
  have oMb : OnN kN M2 Mb := a4.mono (fun _ => tkR_k)
  have v26 : gI Mb 7 26 = nI (kNr D) := by rw [oMb.2.1 _ _ (by omega), r3]
  obtain ⟨Mc, Md, v1, Me, v2, b1, b2, b3, b4, b5, b6, b7, b8, b9, b10, b11, b12⟩ := fld_w (i0 := 8) (w := 11055682) (x := d + 4 + kNr D) (j := 0) (c := 8) (i := 2 * (12 + kNr D)) (l := 0) (H := 61) (lo := 0) (hi := 60) wT_c.2.2.2.2.2.2.2.2.1.symm (by decide) rfl (by decide) (by decide) (by decide) (by omega) (by decide) hS oMa oMb
  obtain ⟨q, q', c1, c2, c5⟩ := is_sp (i := 9) (by decide) b12
  have c5' := c5.w1 (a := d + 4 + kNr D) (k := 1) (v := bI q) (by omega)
  obtain ⟨y, y', e1, e2, e5⟩ := is_sp (i := 10) (by decide) c5'
  have hx1 : gI (sI (sI Md (d + 4 + kNr D) 0 v1) (d + 4 + kNr D) 1 (bI q)) (d + 4 + kNr D) 1 = bI q := by rw [gI_sI, if_pos ⟨rfl, rfl⟩]
  have oN1 : OnT kC (sI (sI M1 (d + 4 + kNr D) 0 v1) (d + 4 + kNr D) 1 (bI q)) (sI (sI Md (d + 4 + kNr D) 0 v1) (d + 4 + kNr D) 1 (bI q)) := b7.w
  have c2' : f_X11_is (sI Me 8 (2 * (12 + kNr D)) v2) 0 99677 = some (bI q') := by rw [← wT_c.2.2.2.2.2.2.2.2.2.1]; exact c2
  have e2' : f_X11_is (sI Me 8 (2 * (12 + kNr D)) v2) 0 456887 = some (bI y') := by rw [← wT_c.2.2.2.2.2.2.2.2.2.2.1]; exact e2
  have m12 : (2 : Int32) * (12 + nI (kNr D)) = nI (2 * (12 + kNr D)) := by rw [show (12 : Int32) = nI 12 from rfl, nI_add, m2_0]
  -- the class up to its two words
  have hcl : ∀ {M1'}, (if bI q = 0 then bd (f_X6_isWord (sI (sI Md (d + 4 + kNr D) 0 v1) (d + 4 + kNr D) 1 (bI q)) 1 10) (fun v15 => if v15 = 0 then bd (f_X6_refuse (sI (sI Md (d + 4 + kNr D) 0 v1) (d + 4 + kNr D) 1 (bI q)) 1 1) fun u16 => f_X6_readRing_75 u16 1 d (d + 4 + kNr D) else f_X6_readRing_75 (sI (sI Md (d + 4 + kNr D) 0 v1) (d + 4 + kNr D) 1 (bI q)) 1 d (d + 4 + kNr D)) else f_X6_readRing_75 (sI (sI Md (d + 4 + kNr D) 0 v1) (d + 4 + kNr D) 1 (bI q)) 1 d (d + 4 + kNr D)) = some M1' → (bd (gR M1 d 6) fun r4 => gd (aB shC r4 4 (gI M1 d 3)) <| bd (gR M1 r4 ((gI M1 d 3) : Int32).toNatClampNeg) fun r6 => bd (f_X6_next M1 1) fun u7 => bd (f_X6_word u7 1 8) fun u8 => bd (f_X6_number u8 1 0 60) fun u9 => gd (oB shC r6 7) <| nx (sI u9.1 r6 0 u9.2) fun M11 => bd (f_X6_isWord M11 1 9) fun v12 => gd (isZ v12) <| nx (sI M11 r6 1 v12) fun M14 => if (gI M14 r6 1) = 0 then bd (f_X6_isWord M14 1 10) fun v15 => if v15 = 0 then bd (f_X6_refuse M14 1 1) fun u16 => f_X6_readRing_75 u16 1 d r6 else f_X6_readRing_75 M14 1 d r6 else f_X6_readRing_75 M14 1 d r6) = some M1' := fun {M1'} hh => by
    rw [mk_6 hG.1.1 hdm, bd_t, c3, aB_t (kNr D) ms.2.1 rfl (by omega) (by decide), gd_t, nI_clamp (by omega), mk_r hG.1.1 hdm (by omega), bd_t, a1, bd_t, b1, bd_t, b2, bd_t, ms.2.2.2.2.1 (kNr D) (by omega), gd_t, nx_t, c1, bd_t, bI_z, gd_t, nx_t, hx1]
    exact hh
  -- the reference up to its two words
  have hrf : ∀ {M2'}, (if bI q' = 0 then (if bI y' = 0 then bd (f_X11_fails (sI Me 8 (2 * (12 + kNr D)) v2) 0 1) fun u9 => f_X11_ringLine_54 u9 0 (nI (2 * (12 + kNr D))) (bI q') else f_X11_ringLine_54 (sI Me 8 (2 * (12 + kNr D)) v2) 0 (nI (2 * (12 + kNr D))) (bI q')) else f_X11_ringLine_54 (sI Me 8 (2 * (12 + kNr D)) v2) 0 (nI (2 * (12 + kNr D))) (bI q')) = some M2' → f_X11_line_146 M2 0 2 = some M2' := fun {M2'} hh => by
    unfold f_X11_line_146 f_X11_ringLine
    rw [oR, gd_t, if_pos hG.2.2.2.1, a2, bd_t, if_pos rfl, gd_t, hasRead_eq hS.r (j := 2) (x := 2) (by decide) rfl, bd_t, v26, rr_18 hS.r, bd_t, b3, bd_t, m12, aB_t (2 * (12 + kNr D)) zR_8 rfl (by omega) (by decide), gd_t, nx_t, nI_clamp (by omega), c2', bd_t, e2', bd_t]
    exact congrArg (fun z => bd z fun u7 => some u7) hh
  have bad : ∀ {M2'}, ¬ gI M2' 0 12 = 0 → ∀ x1 x2, f_X11_ringLine_54 M2' 0 x1 x2 = some M2' := fun {M2'} g x1 x2 => by
    unfold f_X11_ringLine_54
    rw [oR, gd_t, if_neg g]
  have kc : ∀ {Mz Mn}, OnT kC (sI (sI M1 (d + 4 + kNr D) 0 v1) (d + 4 + kNr D) 1 (bI q)) Mz → OnT kC Mz Mn → KpC d M1 (sI (sL Mn (d + 4 + kNr D) 2 0) d 3 (gI Mn d 3 + 1)) := fun o1 o2 => (((((KpC.rf.I (Or.inl iB)).I (Or.inl iB)).tr (KpC.T o1)).tr (KpC.T o2)).L iB).I (Or.inl iD)
  have kr : KpR M2 (sI Me 8 (2 * (12 + kNr D)) v2) := ((KpR.rf.I (sl_8 (by omega))).tr (KpR.N b8))
  by_cases g : gI (sI Me 8 (2 * (12 + kNr D)) v2) 0 12 = 0
  · obtain ⟨⟨a7, e7, t7, ha7, hG7⟩, ⟨⟨-, x, x0, x1, ex1, ex2⟩, eq⟩, ey⟩ := e5.good g
    subst eq
    subst ey
    have final : ∀ (q2 : q = true ∨ y = true), ∃ M1' M2', f_X6_readRing_75 (sI (sI Md (d + 4 + kNr D) 0 v1) (d + 4 + kNr D) 1 (bI q)) 1 d (d + 4 + kNr D) = some M1' ∧ f_X11_ringLine_54 (sI Me 8 (2 * (12 + kNr D)) v2) 0 (nI (2 * (12 + kNr D))) (bI q) = some M2' ∧ LnE L B n d (kLn D) M1 M2 M1' M2' := fun _ => by
      obtain ⟨Mn, Mr, a8, e8, t8, p1, p2, p3, p4, p5, p6⟩ := hG7.next
      have o3 : OnT kC (sI (sI M1 (d + 4 + kNr D) 0 v1) (d + 4 + kNr D) 1 (bI q)) Mn := oN1.tr (p3.mono (fun _ => tkC_k))
      have o4 : OnN kN (sI M2 8 (2 * (12 + kNr D)) v2) Mr := b8.tr (p4.mono (fun _ => tkR_k))
      have cnt : gI Mn d 3 = nI (kNr D) := by rw [o3.2 _ _ (by omega), gI_sI, if_neg (by omega), gI_sI, if_neg (by omega), c3]
      have m27 : nI (2 * (12 + kNr D)) + 1 = nI (2 * (12 + kNr D) + 1) := nI_1 _
      have r7 : RR Mr := p6.1.2.1
      have e82 : ∀ v, f_X11_ringLine_82 Mr 0 v (nI (2 * (12 + kNr D) + 1)) 8 = some (sI (sI Mr 8 (2 * (12 + kNr D) + 1) v) 7 26 (nI (kNr D + 1))) := fun v => by
        unfold f_X11_ringLine_82
        rw [aB_t (2 * (12 + kNr D) + 1) zR_8 rfl (by omega) (by decide), gd_t, nx_t, nI_clamp (by omega), oR, gd_t, rr_17 r7.I, bd_t, aB_l (i := 26) zR_7 (by decide), gd_t, nx_t]
        show some (sI (sI Mr 8 (2 * (12 + kNr D) + 1) v) 7 26 (gI (sI Mr 8 (2 * (12 + kNr D) + 1) v) 7 26 + 1)) = _
        rw [gI_sI, if_neg (by omega), o4.2.1 _ _ (by omega), gI_sI, if_neg (by omega), r3, nI_1]
      refine ⟨_, sI (sI Mr 8 (2 * (12 + kNr D) + 1) (if q = true then 1 else -1)) 7 26 (nI (kNr D + 1)), c75 ms.1 (ms.2.2.2.2.1 (kNr D) (by omega)) p1 (by omega), ?_, ?_, kc oN1 (p3.mono (fun _ => tkC_k)), ((kr.tr (KpR.N (p4.mono (fun _ => tkR_k)))).I (sl_8 (by omega))).I (sl_7 (by omega))⟩
      · unfold f_X11_ringLine_54
        rw [oR, gd_t, if_pos g, p2, bd_t, rr_18 r7, bd_t, m27]
        cases q with
        | true => rw [bI_t, if_neg (show ¬ (1 : Int32) = 0 by decide), e82]; rfl
        | false => rw [bI_f, if_pos rfl, e82]; rfl
      · have hsp : SP L B n True Mn Mr := Or.inl ⟨⟨a8, e8, t8, by have := hG7.2.1.1; omega, p6⟩, trivial⟩
        refine ((((hsp.w1L (a := d + 4 + kNr D) (k := 2) (v := 0)).w1 (a := d) (k := 3) (v := gI Mn d 3 + 1) (by omega)).w2 (a := 8) (k := 2 * (12 + kNr D) + 1) (v := if q = true then 1 else -1) (by decide)).w2 (a := 7) (k := 26) (v := nI (kNr D + 1)) (by decide)).im (fun _ => ⟨insD D 1 (kNr D) (fun c => if c = 0 then x else if q = true then 1 else 0) 3, ?_, rfl⟩)
        refine h.ring hl hll hk (t := x) (e := if q = true then 1 else 0) (by omega) (by split <;> omega) (fun a k z1 z2 z3 => ?_) (fun a k z1 z2 => ?_) ?_ ?_ ?_ ?_ ?_ (fun a k z1 z2 z3 z4 z5 => ?_) ?_ ?_ ?_ ?_ hd
        · have z1' : ¬ (a = 1 ∧ kC k) := fun z => by unfold inB kC at *; omega
          rw [gI_sI, if_neg (by omega), gI_sI, if_neg (by omega), gI_sL, o3.2 _ _ z1', gI_sI, if_neg (by omega), gI_sI, if_neg (by omega)]
        · show gL (sL Mn (d + 4 + kNr D) 2 0) a k = _
          rw [gL_sL, if_neg (by omega), o3.gL]
          rfl
        · rw [gI_sI, if_neg (by omega), gI_sI, if_neg (by omega), gI_sL, o3.2 _ _ (by omega), gI_sI, if_neg (by omega), gI_sI, if_pos ⟨rfl, rfl⟩, ex1]
        · rw [gI_sI, if_neg (by omega), gI_sI, if_neg (by omega), gI_sL, o3.2 _ _ (by omega), gI_sI, if_pos ⟨rfl, rfl⟩]
          cases q <;> rfl
        · show gL (sL Mn (d + 4 + kNr D) 2 0) (d + 4 + kNr D) 2 = 0
          rw [gL_sL, if_pos ⟨rfl, rfl⟩]
        · rw [gI_sI, if_neg (by omega), gI_sI, if_pos ⟨rfl, rfl⟩, cnt, nI_1]
        · rw [gI_sI, if_pos ⟨rfl, rfl⟩]
        · rw [gI_sI, if_neg (by omega), gI_sI, if_neg (by omega), gI_sI, if_neg (by omega), o4.2.1 _ _ (by omega), gI_sI, if_neg (by omega)]
        · rw [gI_sI, if_neg (by omega), gI_sI, if_neg (by omega), gI_sI, if_neg (by omega), o4.2.1 _ _ (by omega), gI_sI, if_pos ⟨rfl, rfl⟩, ex2]
        · rw [gI_sI, if_neg (by omega), gI_sI, if_neg (by omega), gI_sI, if_pos ⟨rfl, rfl⟩]
          cases q <;> rfl
        · rw [gI_sI, if_neg (by omega), gI_sI, if_pos ⟨rfl, rfl⟩]
        · rw [gI_sI, if_pos ⟨rfl, rfl⟩]
    by_cases hq : q = true
    · obtain ⟨M1', M2', f1, f2, f3⟩ := final (Or.inl hq)
      refine ⟨M1', M2', hcl ?_, hrf ?_, f3⟩
      · rw [if_neg (by rw [hq]; decide)]
        exact f1
      · rw [if_neg (by rw [hq]; decide)]
        exact f2
    have hq' : q = false := by simpa using hq
    by_cases hy : y = true
    · obtain ⟨M1', M2', f1, f2, f3⟩ := final (Or.inr hy)
      refine ⟨M1', M2', hcl ?_, hrf ?_, f3⟩
      · rw [if_pos (by rw [hq']; rfl), e1, bd_t, if_neg (by rw [hy]; decide)]
        exact f1
      · rw [if_pos (by rw [hq']; rfl), if_neg (by rw [hy]; decide)]
        exact f2
    have hy' : y = false := by simpa using hy
    obtain ⟨Mf, Mg, f1, f2, f3, f4, f5⟩ := hG7.fail (k := 1) (by decide) (by decide)
    obtain ⟨Mn, g1, g2, g3⟩ := f5.next
    have f1' : f_X6_refuse (sI (sI Md (d + 4 + kNr D) 0 v1) (d + 4 + kNr D) 1 (bI q)) 1 1 = some Mf := f1
    have f2' : f_X11_fails (sI Me 8 (2 * (12 + kNr D)) v2) 0 1 = some Mg := f2
    refine ⟨_, Mg, hcl ?_, hrf ?_, Or.inr ?_, kc (oN1.tr f3) g2, kr.tr (KpR.N f4)⟩
    · rw [if_pos (by rw [hq']; rfl), e1, bd_t, if_pos (by rw [hy']; rfl), f1', bd_t]
      exact c75 ms.1 (ms.2.2.2.2.1 (kNr D) (by omega)) g1 (by omega)
    · rw [if_pos (by rw [hq']; rfl), if_pos (by rw [hy']; rfl), f2', bd_t]
      exact bad f5.n _ _
    · exact (((PB.sp (n := n) (P := True) g3).w1L (a := d + 4 + kNr D) (k := 2) (v := 0)).w1 (a := d) (k := 3) (v := gI Mn d 3 + 1) (by omega)).bad f5.n
  · have hPB := e5.bad g
    obtain ⟨Mn, g1, g2, g3⟩ := hPB.next
    have e75 := c75 (d := d) (x := d + 4 + kNr D) ms.1 (ms.2.2.2.2.1 (kNr D) (by omega)) g1 (by omega)
    refine ⟨_, sI Me 8 (2 * (12 + kNr D)) v2, hcl (M1' := sI (sL Mn (d + 4 + kNr D) 2 0) d 3 (gI Mn d 3 + 1)) ?_, hrf ?_, Or.inr ?_, kc oN1 g2, kr⟩
    · rw [e1, bd_t, hPB.refuse, bd_t, e75]
      split
      · split <;> rfl
      · rfl
    · rw [hPB.fails, bd_t, bad g]
      split
      · split <;> rfl
      · rfl
    · exact (((PB.sp (n := n) (P := True) g3).w1L (a := d + 4 + kNr D) (k := 2) (v := 0)).w1 (a := d) (k := 3) (v := gI Mn d 3 + 1) (by omega)).bad g
end L2
