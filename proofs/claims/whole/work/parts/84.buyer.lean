/-! A BUYER's LINE -/
section L5
variable {L : Nat} {B : Nat → Int32} {d n : Nat} {D : MK} {M1 M2 M1' M2' : Mem}
theorem MkR.buyer (h : MkR d D M1 M2) (hl : 0 < kLn D) (hll : kLn D < 2000) (hn : kNb D < 6) {f : Nat → Nat} (hf : f 0 < kP D ∧ f 1 ≤ 999 ∧ f 2 ≤ 2 ∧ f 3 = 0)
    (i1 : ∀ a k, (inB d a ∨ (a = 1 ∧ k = 8)) → a ≠ d + 15 + 4 * kNb D → ¬ (a = d ∧ (k = 5 ∨ k = 2)) → gI M1' a k = gI M1 a k) (l1 : ∀ a k, inB d a → gL M1' a k = gL M1 a k) (x0 : ∀ j, j < 4 → gI M1' (d + 15 + 4 * kNb D) j = nI (f j)) (x3 : gI M1' d 5 = nI (kNb D + 1)) (x4 : gI M1' d 2 = nI (kLn D + 1))
    (i2 : ∀ a k, 6 ≤ a → a ≤ 12 → ¬ (a = 10 ∧ 4 * (24 + kNb D) ≤ k ∧ k < 4 * (24 + kNb D) + 4) → ¬ (a = 7 ∧ k = 28) → ¬ (a = 6 ∧ k = 4) → gI M2' a k = gI M2 a k) (y0 : ∀ j, j < 4 → gI M2' 10 (4 * (24 + kNb D) + j) = nI (f j)) (y3 : gI M2' 7 28 = nI (kNb D + 1)) (y4 : gI M2' 6 4 = nI (kLn D + 1)) (hd : d = 3 ∨ d = 42) : MkR d (insD D 4 (kNb D) f 5) M1' M2' := by
  obtain ⟨hW, hSt, hC, hR, ⟨m, sr, sf, st, g1, g2, g3, g4, g5⟩, g6⟩ := h
  obtain ⟨w1, w2, w3, w4, w5, w6, w7⟩ := hW
  have w1' : 1 ≤ kLn D ∧ kLn D ≤ 2000 ∧ 2 ≤ kP D ∧ kP D ≤ 12 ∧ 1 ≤ kMi D ∧ kMi D ≤ 60 := by
    rcases w1 with z | z
    · omega
    · exact z
  have eR : ∀ r j, kBy (insD D 4 (kNb D) f 5) r j = if r = kNb D then f j else kBy D r j := fun r j => by
    unfold kBy insD
    by_cases c : r = kNb D
    · rw [if_pos ⟨rfl, c, rfl⟩, if_pos c]
    · rw [if_neg (fun z => c z.2.1), if_neg (by omega), if_neg (by omega), if_neg c]
  have eN : kNb (insD D 4 (kNb D) f 5) = kNb D + 1 := rfl
  refine ⟨⟨Or.inr ⟨(by show 1 ≤ kLn D + 1; omega), (by show kLn D + 1 ≤ 2000; omega), w1'.2.2⟩, w2, w3, (by rw [eN]; omega), w5, w6, fun b hb => ?_⟩, hSt, ⟨⟨?_, ?_, x4, ?_, ?_, x3⟩, fun r hr => ?_, fun s hs j hj => ?_, fun i hi => ⟨fun j hj => ?_, fun w hw => ?_⟩⟩, ⟨⟨?_, ?_, y4, ?_, ?_, y3⟩, fun r hr => ?_, fun s hs j hj => ?_, fun i hi => ⟨fun j hj => ?_, fun w hw j hj => ?_⟩⟩, ⟨m, sr, sf, st, g1, ?_, ?_, fun i hi => ?_, g5⟩, g6⟩
  · simp only [eR]
    by_cases c : b = kNb D
    · simp only [if_pos c]
      exact ⟨hf.1, hf.2.1, hf.2.2.1, by omega, fun w hw => by omega, fun w v hw => by omega⟩
    · simp only [if_neg c]
      exact w7 b (by rw [eN] at hb; omega)
  · rw [i1 _ _ (Or.inl (by unfold inB; omega)) (by omega) (by omega)]; exact hC.1.1
  · rw [i1 _ _ (Or.inl (by unfold inB; omega)) (by omega) (by omega)]; exact hC.1.2.1
  · rw [i1 _ _ (Or.inl (by unfold inB; omega)) (by omega) (by omega)]; exact hC.1.2.2.2.1
  · rw [i1 _ _ (Or.inl (by unfold inB; omega)) (by omega) (by omega)]; exact hC.1.2.2.2.2.1
  · have hr' : r < kNr D := hr
    rw [i1 _ _ (Or.inl (by unfold inB; omega)) (by omega) (by omega), i1 _ _ (Or.inl (by unfold inB; omega)) (by omega) (by omega), l1 _ _ (by unfold inB; omega)]
    exact hC.2.1 r hr'
  · have hs' : s < kNs D := hs
    rw [i1 _ _ (Or.inl (by unfold inB; omega)) (by omega) (by omega)]
    exact hC.2.2.1 s hs' j hj
  · rw [eR]
    by_cases c : i = kNb D
    · rw [if_pos c, c]
      exact x0 j hj
    · have hi' : i < kNb D := by rw [eN] at hi; omega
      rw [if_neg c, i1 _ _ (Or.inl (by unfold inB; omega)) (by omega) (by omega)]
      exact (hC.2.2.2 i hi').1 j hj
  · rw [eR] at hw
    by_cases c : i = kNb D
    · rw [if_pos c] at hw
      omega
    · have hi' : i < kNb D := by rw [eN] at hi; omega
      rw [if_neg c] at hw
      rw [i1 _ _ (Or.inl (by unfold inB; omega)) (by omega) (by omega), i1 _ _ (Or.inl (by unfold inB; omega)) (by omega) (by omega), i1 _ _ (Or.inl (by unfold inB; omega)) (by omega) (by omega)]
      exact (hC.2.2.2 i hi').2 w hw
  · rw [i2 _ _ (by omega) (by omega) (by omega) (by omega) (by omega)]; exact hR.1.1
  · rw [i2 _ _ (by omega) (by omega) (by omega) (by omega) (by omega)]; exact hR.1.2.1
  · rw [i2 _ _ (by omega) (by omega) (by omega) (by omega) (by omega)]; exact hR.1.2.2.2.1
  · rw [i2 _ _ (by omega) (by omega) (by omega) (by omega) (by omega)]; exact hR.1.2.2.2.2.1
  · rw [i2 _ _ (by omega) (by omega) (by omega) (by omega) (by omega), i2 _ _ (by omega) (by omega) (by omega) (by omega) (by omega)]
    exact hR.2.1 r hr
  · rw [i2 _ _ (by omega) (by omega) (by omega) (by omega) (by omega)]; exact hR.2.2.1 s hs j hj
  · rw [eR]
    by_cases c : i = kNb D
    · rw [if_pos c, c]
      exact y0 j hj
    · have hi' : i < kNb D := by rw [eN] at hi; omega
      rw [if_neg c, i2 _ _ (by omega) (by omega) (by omega) (by omega) (by omega)]
      exact (hR.2.2.2 i hi').1 j hj
  · rw [eR] at hw
    by_cases c : i = kNb D
    · rw [if_pos c] at hw
      omega
    · have hi' : i < kNb D := by rw [eN] at hi; omega
      rw [if_neg c] at hw
      rw [i2 _ _ (by omega) (by omega) (by omega) (by omega) (by omega)]
      exact (hR.2.2.2 i hi').2 w hw j hj
  · rw [i1 _ _ (Or.inr ⟨rfl, rfl⟩) (by omega) (by omega)]; exact g2
  · rw [i2 _ _ (by omega) (by omega) (by omega) (by omega) (by omega)]; exact g3
  · rw [i2 _ _ (by omega) (by omega) (by omega) (by omega) (by omega), i2 _ _ (by omega) (by omega) (by omega) (by omega) (by omega), i2 _ _ (by omega) (by omega) (by omega) (by omega) (by omega)]
    exact g4 i hi
/-- the end of a buyer's line -/
def rbE (x d : Nat) (u : Mem) : Option Mem := nx (sI u x 3 0) fun M17 => nx (sI M17 d 5 ((gI M17 d 5) + 1)) fun M18 => some M18
def rbR (i5 : Int32) (Z : Mem) : Option Mem := bd (f_X11_is Z 0 2682144) fun v25 => if v25 = 0 then bd (f_X11_is Z 0 7872949060) fun v26 => if v26 = 0 then bd (f_X11_is Z 0 383153) fun v27 => if v27 = 0 then f_X11_buyerLine_101 Z 0 i5 (-1) else f_X11_buyerLine_101 Z 0 i5 2 else f_X11_buyerLine_101 Z 0 i5 1 else f_X11_buyerLine_101 Z 0 i5 0
theorem b112_bad {Z : Mem} {i k : Int32} (g : ¬ gI Z 0 12 = 0) : f_X11_buyerLine_112 Z 0 i k = some Z := by
  unfold f_X11_buyerLine_112
  rw [oR, gd_t, if_neg g]
theorem habit_pb {x : Nat} (ox : oB shC x 1 = true) (hx : x ≠ d) (ix : inB d x) (hd : d = 3 ∨ d = 42) (h : PB L B M1 M2) : ∃ M', f_X6_readHabit M1 1 x = some M' ∧ KpC d M1 M' ∧ PB L B M' M2 := by
  have x3 : 3 ≤ x := by unfold inB at ix; omega
  obtain ⟨b1, e1⟩ := h.isWord (i := 20) (by decide)
  obtain ⟨b2, e2⟩ := h.isWord (i := 21) (by decide)
  obtain ⟨b3, e3⟩ := h.isWord (i := 22) (by decide)
  obtain ⟨Mn, n1, n2, n3⟩ := h.next
  have wr : ∀ v, ∃ M', f_X6_next (sI M1 x 2 v) 1 = some M' ∧ KpC d M1 M' ∧ PB L B M' M2 := fun v => by
    obtain ⟨Mv, v1, v2, v3⟩ := (h.w1 (a := x) (k := 2) (v := v) x3).next
    exact ⟨Mv, v1, (KpC.rf.I (Or.inl ix)).tr (KpC.T v2), v3⟩
  obtain ⟨A0, p0, p1, p2⟩ := wr 0
  obtain ⟨A1, q0, q1, q2⟩ := wr 1
  obtain ⟨A2, r0, r1, r2⟩ := wr 2
  unfold f_X6_readHabit
  rw [oC_1, gd_t, e1, bd_t, e2, bd_t, e3, bd_t, h.refuse, bd_t, n1, bd_t, ox, gd_t, gd_t, gd_t, nx_t, nx_t, nx_t, p0, q0, r0, bd_t, bd_t, bd_t]
  cases b1 with
  | true => exact ⟨A0, by rw [bI_t, if_neg (show ¬ (1 : Int32) = 0 by decide)], p1, p2⟩
  | false =>
    rw [bI_f, if_pos rfl]
    cases b2 with
    | true => exact ⟨A1, by rw [bI_t, if_neg (show ¬ (1 : Int32) = 0 by decide)], q1, q2⟩
    | false =>
      rw [bI_f, if_pos rfl]
      cases b3 with
      | true => exact ⟨A2, by rw [bI_t, if_neg (show ¬ (1 : Int32) = 0 by decide)], r1, r2⟩
      | false => exact ⟨Mn, by rw [bI_f, if_pos rfl], KpC.T n2, n3⟩
theorem rbE_eq {M : Mem} {x : Nat} (hx : x ≠ d) : rbE x d M = some (sI (sI M x 3 0) d 5 (gI M d 5 + 1)) := by
  unfold rbE
  rw [nx_t, nx_t, gI_sI, if_neg (fun z => hx z.1.symm)]
theorem habit_both {A Z : Mem} {x i5 a e t c5 c28 : Nat} (ox : oB shC x 1 = true) (hx : x ≠ d) (ix : inB d x) (hd : d = 3 ∨ d = 42) (hi5 : 96 ≤ i5 ∧ i5 + 3 < 120) (ha : n ≤ a) (hG : PG L B A Z a e t) (hc5 : gI A d 5 = nI c5) (hc28 : gI Z 7 28 = nI c28) : ∃ A' Z', (bd (f_X6_readHabit A 1 x) (rbE x d)) = some A' ∧ rbR (nI i5) Z = some Z' ∧ KpC d A A' ∧ KpR Z Z' ∧ ((∃ a' e' t', n ≤ a' ∧ PG L B A' Z' a' e' t' ∧ ∃ κ An Zn, κ ≤ 2 ∧ OnT kC (sI A x 2 (nI κ)) An ∧ A' = sI (sI An x 3 0) d 5 (nI (c5 + 1)) ∧ OnN kN Z Zn ∧ Z' = sI (sI (sI Zn 10 (i5 + 2) (nI κ)) 10 (i5 + 3) 0) 7 28 (nI (c28 + 1))) ∨ PB L B A' Z') := by
  have x3 : 3 ≤ x := by unfold inB at ix; omega
  have iD : inB d d := by unfold inB; omega
  have hTK : ∀ {A' Z' a' e' t'}, PG L B A' Z' a' e' t' → n ≤ a' → SP L B n True A' Z' := fun p q => Or.inl ⟨⟨_, _, _, q, p⟩, trivial⟩
  have m2 : nI i5 + 2 = nI (i5 + 2) := nI_add _ 2
  have m3 : nI i5 + 3 = nI (i5 + 3) := nI_add _ 3
  have told : ∀ κ, κ ≤ 2 → ∃ A' Z', (bd (bd (f_X6_next (sI A x 2 (nI κ)) 1) fun u => some u) (rbE x d)) = some A' ∧ f_X11_buyerLine_101 Z 0 (nI i5) (nI κ) = some Z' ∧ KpC d A A' ∧ KpR Z Z' ∧ ((∃ a' e' t', n ≤ a' ∧ PG L B A' Z' a' e' t' ∧ ∃ κ An Zn, κ ≤ 2 ∧ OnT kC (sI A x 2 (nI κ)) An ∧ A' = sI (sI An x 3 0) d 5 (nI (c5 + 1)) ∧ OnN kN Z Zn ∧ Z' = sI (sI (sI Zn 10 (i5 + 2) (nI κ)) 10 (i5 + 3) 0) 7 28 (nI (c28 + 1))) ∨ PB L B A' Z') := fun κ hκ => by
    obtain ⟨a1, e1, t1, h1, hG1⟩ := ((hTK hG ha).w1 (a := x) (k := 2) (v := nI κ) x3).good hG.2.2.2.1 |>.1
    obtain ⟨An, Zn, a2, e2, t2, n1, n2, n3, n4, n5, n6⟩ := hG1.next
    have oA : OnT kC (sI A x 2 (nI κ)) An := n3.mono (fun _ => tkC_k)
    have oZ : OnN kN Z Zn := n4.mono (fun _ => tkR_k)
    have k5 : gI An d 5 = nI c5 := by rw [oA.2 _ _ (by omega), gI_sI, if_neg (fun z => hx z.1.symm), hc5]
    have k28 : gI Zn 7 28 = nI c28 := by rw [oZ.2.1 _ _ (by omega), hc28]
    have rz : RR Zn := n6.1.2.1
    rw [n1, bd_t, bd_t, rbE_eq hx, k5, nI_1]
    refine ⟨_, sI (sI (sI Zn 10 (i5 + 2) (nI κ)) 10 (i5 + 3) 0) 7 28 (nI (c28 + 1)), rfl, ?_, (((KpC.rf.I (Or.inl ix)).tr (KpC.T oA)).I (Or.inl ix)).I (Or.inl iD), (((KpR.N oZ).I (sl_10 (by omega))).I (sl_10 (by omega))).I (sl_7 (by omega)), Or.inl ?_⟩
    · unfold f_X11_buyerLine_101 f_X11_buyerLine_112
      rw [if_neg (ne_m1 (by omega)), oR, gd_t, if_pos hG.2.2.2.1, n2, bd_t, rr_20 rz, bd_t, m2, m3, aB_t (i5 + 2) zR_10 rfl (by omega) (by decide), gd_t, nx_t, nI_clamp (n := i5 + 2) (by omega), aB_t (i5 + 3) zR_10 rfl (by omega) (by decide), gd_t, nx_t, nI_clamp (n := i5 + 3) (by omega), rr_17 rz.I.I, bd_t, aB_l (i := 28) zR_7 (by decide), gd_t, nx_t]
      show some (sI (sI (sI Zn 10 (i5 + 2) (nI κ)) 10 (i5 + 3) 0) 7 28 (gI (sI (sI Zn 10 (i5 + 2) (nI κ)) 10 (i5 + 3) 0) 7 28 + 1)) = _
      rw [gI_sI, if_neg (by omega), gI_sI, if_neg (by omega), k28, nI_1]
    · have hS3 : SP L B n True (sI (sI An x 3 0) d 5 (nI (c5 + 1))) (sI (sI (sI Zn 10 (i5 + 2) (nI κ)) 10 (i5 + 3) 0) 7 28 (nI (c28 + 1))) := (((((hTK n6 (by have := hG1.2.1.1; omega)).w1 x3).w1 (by omega)).w2 (by decide)).w2 (by decide)).w2 (by decide)
      obtain ⟨a3, e3, t3, h3, hG3⟩ := (hS3.good n6.2.2.2.1).1
      exact ⟨a3, e3, t3, h3, hG3, κ, An, Zn, hκ, oA, rfl, oZ, rfl⟩
  obtain ⟨b1, f1, f2, -⟩ := isWord_both (i := 20) (by decide) hG.1 hG.2.1
  obtain ⟨b2, g1, g2, -⟩ := isWord_both (i := 21) (by decide) hG.1 hG.2.1
  obtain ⟨b3, h1, h2, -⟩ := isWord_both (i := 22) (by decide) hG.1 hG.2.1
  have f2' : f_X11_is Z 0 2682144 = some (bI b1) := by rw [← wT_c.2.2.2.2.2.2.2.2.2.2.2.2.2.2.2.2.2.2.2.2.1]; exact f2 hG.2.2.2.1
  have g2' : f_X11_is Z 0 7872949060 = some (bI b2) := by rw [← wT_c.2.2.2.2.2.2.2.2.2.2.2.2.2.2.2.2.2.2.2.2.2.1]; exact g2 hG.2.2.2.1
  have h2' : f_X11_is Z 0 383153 = some (bI b3) := by rw [← wT_c.2.2.2.2.2.2.2.2.2.2.2.2.2.2.2.2.2.2.2.2.2.2.1]; exact h2 hG.2.2.2.1
  unfold f_X6_readHabit rbR
  rw [oC_1, gd_t, f1, bd_t, g1, bd_t, h1, bd_t, ox, gd_t, gd_t, gd_t, nx_t, nx_t, nx_t, f2', bd_t, g2', bd_t, h2', bd_t]
  cases b1 with
  | true =>
    rw [bI_t, if_neg (show ¬ (1 : Int32) = 0 by decide), if_neg (show ¬ (1 : Int32) = 0 by decide)]
    exact told 0 (by decide)
  | false =>
    rw [bI_f, if_pos rfl, if_pos rfl]
    cases b2 with
    | true =>
      rw [bI_t, if_neg (show ¬ (1 : Int32) = 0 by decide), if_neg (show ¬ (1 : Int32) = 0 by decide)]
      exact told 1 (by decide)
    | false =>
      rw [bI_f, if_pos rfl, if_pos rfl]
      cases b3 with
      | true =>
        rw [bI_t, if_neg (show ¬ (1 : Int32) = 0 by decide), if_neg (show ¬ (1 : Int32) = 0 by decide)]
        exact told 2 (by decide)
      | false =>
        rw [bI_f, if_pos rfl, if_pos rfl]
        obtain ⟨Af, Zf, p1, p2, p3, p4, p5⟩ := hG.fail (k := 1) (by decide) (by decide)
        obtain ⟨An, q1, q2, q3⟩ := p5.next
        have p1' : f_X6_refuse A 1 1 = some Af := p1
        have p2' : f_X11_fails Z 0 1 = some Zf := p2
        refine ⟨sI (sI An x 3 0) d 5 (gI An d 5 + 1), Zf, ?_, ?_, (((KpC.T p3).tr (KpC.T q2)).I (Or.inl ix)).I (Or.inl iD), KpR.N p4, Or.inr ((q3.w1 x3).w1 (by omega))⟩
        · rw [p1', bd_t, q1, bd_t, bd_t, rbE_eq hx]
        · unfold f_X11_buyerLine_101
          rw [if_pos rfl, oR, gd_t, p2', bd_t, b112_bad p5.n]
theorem buyer_line {a e t : Nat} (hd : d = 3 ∨ d = 42) (h : MkR d D M1 M2) (hl : 0 < kLn D) (hll : kLn D < 2000) (ha : n ≤ a) (hG : PG L B M1 M2 a e t) : ∃ M1' M2', f_X6_readBuyer M1 1 d = some M1' ∧ f_X11_line_72 M2 0 4 = some M2' ∧ LnE L B n d (kLn D) M1 M2 M1' M2' := by
  have hdm : d ∈ MB := by rcases hd with rfl | rfl <;> decide
  have ms := mb_sh d hdm
  have hW := h.1
  have hN := hW.n
  have hkP := hW.p
  have hCh := h.2.2.1.1
  have hRh := h.2.2.2.1.h4
  have hR := hG.1.2.1
  rw [l72_4 hR, hRh.2.2.2.2.2]
  unfold f_X6_readBuyer
  rw [ms.1, gd_t, oC_1, gd_t, hCh.2.2.2.2.2]
  by_cases hn : kNb D = 6
  · obtain ⟨Ma, Mb, a1, a2, a3, a4, a5⟩ := hG.fail (k := 3) (by decide) (by decide)
    rw [full_yes (m := 6) (x := 6) rfl (by decide) (by omega) (by omega) a1, bd_t, if_pos (show nI (kNb D) = 6 by rw [hn]; rfl), l141_bad a2 a5.n]
    dsimp only
    rw [if_neg (show ¬ (1 : Int32) = 0 by decide)]
    exact ⟨Ma, Mb, rfl, rfl, LnE.pb a3 a4 a5⟩
  have hk : kNb D < 6 := by omega
  rw [full_no (m := 6) (x := 6) rfl (by decide) hk, bd_t, if_neg (nI_neL (x := 6) 6 rfl hn (by omega) (by decide))]
  dsimp only
  obtain ⟨x, hx⟩ : ∃ x, x = d + 15 + 4 * kNb D := ⟨_, rfl⟩
  have ix : inB d x := by unfold inB; omega
  have iD : inB d d := by unfold inB; omega
  have ox : oB shC x 1 = true := by rw [hx]; exact (ms.2.2.2.2.2.2 (kNb D) (by omega)).1
  obtain ⟨i0, hi0⟩ : ∃ i, i = 4 * (24 + kNb D) := ⟨_, rfl⟩
  obtain ⟨Ma, Mb, a', e', t', a1, a2, a3, a4, a5, a6⟩ := hG.next
  have hS : SP L B n True Ma Mb := Or.inl ⟨⟨a', e', t', by have := hG.2.1.1; omega, a6⟩, trivial⟩
  have oMa : OnT kC M1 Ma := a3.mono (fun _ => tkC_k)
  have oMb : OnN kN M2 Mb := a4.mono (fun _ => tkR_k)
  have vP : gI Mb 7 24 = nI (kP D) := by rw [oMb.2.1 _ _ (by omega), hRh.1]
  have vNb : gI Mb 7 28 = nI (kNb D) := by rw [oMb.2.1 _ _ (by omega), hRh.2.2.2.2.2]
  obtain ⟨C1, B1, v1, Z1, w1, c1, c2, c3, c4, c5, c6, c7, c8, c9, c10, c11, c12⟩ := fld_w (i0 := 11) (w := 47) (x := x) (j := 0) (c := 10) (i := i0) (l := 0) (H := kP D) (lo := 0) (hi := nI (kP D) - 1) wT_c.2.2.2.2.2.2.2.2.2.2.2.1.symm (by decide) rfl rfl (by omega) (by omega) (by omega) (by decide) hS oMa oMb
  obtain ⟨C2, B2, v2, Z2, w2, d1, d2, d3, d4, d5, d6, d7, d8, d9, d10, d11, d12⟩ := fld_w (i0 := 18) (w := 1896526) (x := x) (j := 1) (c := 10) (i := i0 + 1) (l := 0) (H := 1000) (lo := 0) (hi := 999) wT_c.2.2.2.2.2.2.2.2.2.2.2.2.2.2.2.2.2.2.1.symm (by decide) rfl (by decide) (by omega) (by omega) (by omega) (by decide) c12 c7 c8
  obtain ⟨C3, Z3, e1, e2, e3, e4, e5⟩ := word_sp (i := 19) (by decide) d12
  have e2' : f_X11_asks (sI Z2 10 (i0 + 1) w2) 0 4272932 = some Z3 := by rw [← wT_c.2.2.2.2.2.2.2.2.2.2.2.2.2.2.2.2.2.2.2.1]; exact e2
  have oC3 := d7.tr e3
  have oZ3 := d8.tr e4
  have cP : gI C1 d 0 = nI (kP D) := by rw [c4.2 _ _ (by omega), hCh.1]
  have kc5 : KpC d M1 C3 := ((KpC.rf.I (Or.inl ix)).I (Or.inl ix)).tr (KpC.T oC3)
  have kr5 : KpR M2 Z3 := ((KpR.rf.I (sl_10 (by omega))).I (sl_10 (by omega))).tr (KpR.N oZ3)
  have hcl : ∀ {M1'}, bd (f_X6_readHabit C3 1 x) (rbE x d) = some M1' → (bd (gR M1 d 8) fun r4 => gd (aB shC r4 6 (gI M1 d 5)) <| bd (gR M1 r4 ((gI M1 d 5) : Int32).toNatClampNeg) fun r6 => bd (f_X6_next M1 1) fun u7 => bd (f_X6_word u7 1 11) fun u8 => bd (f_X6_number u8 1 0 ((gI u8 d 0) - 1)) fun u9 => gd (oB shC r6 1) <| nx (sI u9.1 r6 0 u9.2) fun M11 => bd (f_X6_word M11 1 18) fun u12 => bd (f_X6_number u12 1 0 999) fun u13 => nx (sI u13.1 r6 1 u13.2) fun M14 => bd (f_X6_word M14 1 19) fun u15 => bd (f_X6_readHabit u15 1 r6) fun u16 => nx (sI u16 r6 3 0) fun M17 => nx (sI M17 d 5 ((gI M17 d 5) + 1)) fun M18 => some M18) = some M1' := fun {M1'} hh => by
    rw [mk_8 hG.1.1 hdm, bd_t, hCh.2.2.2.2.2, aB_t (kNb D) ms.2.2.2.1 rfl (by omega) (by decide), gd_t, nI_clamp (by omega), mk_b hG.1.1 hdm (by omega), bd_t, ← hx, a1, bd_t, c1, bd_t, cP, c2, bd_t, ox, gd_t, nx_t, d1, bd_t, d2, bd_t, nx_t, e1, bd_t]
    exact hh
  have m424 : (4 : Int32) * (24 + nI (kNb D)) = nI i0 := by rw [hi0, show (24 : Int32) = nI 24 from rfl, nI_add, m4_0]
  have hrf : ∀ {M2'}, rbR (nI i0) Z3 = some M2' → f_X11_line_146 M2 0 4 = some M2' := fun {M2'} hh => by
    unfold f_X11_line_146 f_X11_buyerLine
    rw [oR, gd_t, if_pos hG.2.2.2.1, a2, bd_t, if_neg (show ¬ (4 : Int32) = 2 by decide), if_neg (show ¬ (4 : Int32) = 3 by decide), if_pos rfl, gd_t, hasRead_eq hS.r (j := 4) (x := 4) (by decide) rfl, bd_t, vNb, rr_20 hS.r, bd_t, hasRead_eq hS.r (j := 0) (x := 0) (by decide) rfl, bd_t, vP, c3, bd_t, m424, aB_t i0 zR_10 rfl (by omega) (by decide), gd_t, nx_t, nI_clamp (n := i0) (by omega), rr_20 c12.r, bd_t, d3, bd_t, show nI i0 + 1 = nI (i0 + 1) from nI_add _ 1, aB_t (i0 + 1) zR_10 rfl (by omega) (by decide), gd_t, nx_t, nI_clamp (n := i0 + 1) (by omega), e2', bd_t]
    exact congrArg (fun z => bd z fun u7 => some u7) hh
  by_cases g : gI Z3 0 12 = 0
  case' neg =>
    have hPB := e5.bad g
    obtain ⟨Mk, k1, k2, k3⟩ := habit_pb ox (by omega) ix hd hPB
    refine ⟨sI (sI Mk x 3 0) d 5 (gI Mk d 5 + 1), Z3, hcl (by rw [k1, bd_t, rbE_eq (by omega)]), hrf ?_, Or.inr ((k3.w1 (by omega)).w1 (by omega)), ((kc5.tr k2).I (Or.inl ix)).I (Or.inl iD), kr5⟩
    unfold rbR f_X11_buyerLine_101
    rw [hPB.is, bd_t, if_pos rfl, hPB.is, bd_t, if_pos rfl, hPB.is, bd_t, if_pos rfl, if_pos rfl, oR, gd_t, hPB.fails, bd_t, b112_bad g]
  obtain ⟨⟨a7, e7', t7, ha7, hG7⟩, ⟨-, y0, -, y0b, ey0, ez0⟩, y1, -, y1b, ey1, ez1⟩ := e5.good g
  have cc5 : gI C3 d 5 = nI (kNb D) := by rw [oC3.2 _ _ (by omega), gI_sI, if_neg (by omega), gI_sI, if_neg (by omega), hCh.2.2.2.2.2]
  have cc28 : gI Z3 7 28 = nI (kNb D) := by rw [oZ3.2.1 _ _ (by omega), gI_sI, if_neg (by omega), gI_sI, if_neg (by omega), hRh.2.2.2.2.2]
  obtain ⟨A', Z', k1, k2, k3, k4, k5⟩ := habit_both (n := n) (x := x) (i5 := i0) ox (by omega) ix hd (by omega) ha7 hG7 cc5 cc28
  refine ⟨A', Z', hcl k1, hrf k2, ?_, kc5.tr k3, kr5.tr k4⟩
  rcases k5 with ⟨a9, e9', t9, ha9, hG9, κ, An, Zn, q1, q3, q4, q5, q6⟩ | hB
  case' inr => exact Or.inr hB
  refine Or.inl ⟨⟨a9, e9', t9, ha9, hG9⟩, insD D 4 (kNb D) (fun j => if j = 0 then y0 else if j = 1 then y1 else if j = 2 then κ else 0) 5, ?_, rfl⟩
  have p3 : OnT kC (sI (sI (sI M1 x 0 v1) x 1 v2) x 2 (nI κ)) An := (oC3.w).tr q3
  have p5 : OnN kN (sI (sI M2 10 i0 w1) 10 (i0 + 1) w2) Zn := oZ3.tr q5
  subst q4
  subst q6
  refine h.buyer hl hll hk ⟨y0b, by show y1 ≤ 999; omega, q1, rfl⟩ (fun a k z1 z2 z3 => ?_) (fun a k z1 => ?_) (fun j hj => ?_) ?_ ?_ (fun a k z1 z2 z3 z4 z5 => ?_) (fun j hj => ?_) ?_ ?_ hd
  · have z1' : ¬ (a = 1 ∧ kC k) := fun z => by unfold inB kC at *; omega
    rw [gI_sI, if_neg (by omega), gI_sI, if_neg (by omega), gI_sI, if_neg (by omega), p3.2 _ _ z1', gI_sI, if_neg (by omega), gI_sI, if_neg (by omega), gI_sI, if_neg (by omega)]
  · show gL An a k = _
    rw [p3.gL]
    rfl
  · rw [gI_sI, if_neg (by omega), gI_sI, if_neg (by omega), gI_sI]
    have hj' : j = 0 ∨ j = 1 ∨ j = 2 ∨ j = 3 := by omega
    rcases hj' with rfl | rfl | rfl | rfl
    · rw [if_neg (by omega), p3.2 _ _ (by omega), gI_sI, if_neg (by omega), gI_sI, if_neg (by omega), gI_sI, if_pos ⟨hx.symm, rfl⟩, ey0]; rfl
    · rw [if_neg (by omega), p3.2 _ _ (by omega), gI_sI, if_neg (by omega), gI_sI, if_pos ⟨hx.symm, rfl⟩, ey1]; rfl
    · rw [if_neg (by omega), p3.2 _ _ (by omega), gI_sI, if_pos ⟨hx.symm, rfl⟩]; rfl
    · rw [if_pos ⟨hx.symm, rfl⟩]; rfl
  · rw [gI_sI, if_neg (by omega), gI_sI, if_pos ⟨rfl, rfl⟩]
  · rw [gI_sI, if_pos ⟨rfl, rfl⟩]
  · rw [gI_sI, if_neg (by omega), gI_sI, if_neg (by omega), gI_sI, if_neg (by omega), gI_sI, if_neg (by omega), p5.2.1 _ _ (by omega), gI_sI, if_neg (by omega), gI_sI, if_neg (by omega)]
  · rw [gI_sI, if_neg (by omega), gI_sI, if_neg (by omega), gI_sI]
    have hj' : j = 0 ∨ j = 1 ∨ j = 2 ∨ j = 3 := by omega
    rcases hj' with rfl | rfl | rfl | rfl
    · rw [if_neg (by omega), gI_sI, if_neg (by omega), p5.2.1 _ _ (by omega), gI_sI, if_neg (by omega), gI_sI, if_pos ⟨rfl, by omega⟩, ez0]; rfl
    · rw [if_neg (by omega), gI_sI, if_neg (by omega), p5.2.1 _ _ (by omega), gI_sI, if_pos ⟨rfl, by omega⟩, ez1]; rfl
    · rw [if_neg (by omega), gI_sI, if_pos ⟨rfl, by omega⟩]; rfl
    · rw [if_pos ⟨rfl, by omega⟩]; rfl
  · rw [gI_sI, if_neg (by omega), gI_sI, if_pos ⟨rfl, rfl⟩]
  · rw [gI_sI, if_pos ⟨rfl, rfl⟩]
end L5
