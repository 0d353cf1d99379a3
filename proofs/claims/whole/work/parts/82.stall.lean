/-! A STALL's LINE -/
section L3
variable {L : Nat} {B : Nat → Int32} {d n : Nat} {D : MK} {M1 M2 M1' M2' : Mem}
theorem MkR.stall (h : MkR d D M1 M2) (hl : 0 < kLn D) (hll : kLn D < 2000) (hn : kNs D < 8) {f : Nat → Nat} (hf : f 0 < kNr D ∧ f 1 < kP D ∧ f 2 ≤ 5 ∧ f 3 ≤ 20 ∧ f 4 ≤ 99 ∧ f 5 ≤ 2 ∧ f 6 ≤ 20)
    (i1 : ∀ a k, (inB d a ∨ (a = 1 ∧ k = 8)) → a ≠ d + 7 + kNs D → ¬ (a = d ∧ (k = 4 ∨ k = 2)) → gI M1' a k = gI M1 a k) (l1 : ∀ a k, inB d a → gL M1' a k = gL M1 a k) (x0 : ∀ j, j < 7 → gI M1' (d + 7 + kNs D) j = nI (f j)) (x3 : gI M1' d 4 = nI (kNs D + 1)) (x4 : gI M1' d 2 = nI (kLn D + 1))
    (i2 : ∀ a k, 6 ≤ a → a ≤ 12 → ¬ (a = 9 ∧ 7 * (32 + kNs D) ≤ k ∧ k < 7 * (32 + kNs D) + 7) → ¬ (a = 7 ∧ k = 27) → ¬ (a = 6 ∧ k = 4) → gI M2' a k = gI M2 a k) (y0 : ∀ j, j < 7 → gI M2' 9 (7 * (32 + kNs D) + j) = nI (f j)) (y3 : gI M2' 7 27 = nI (kNs D + 1)) (y4 : gI M2' 6 4 = nI (kLn D + 1)) (hd : d = 3 ∨ d = 42) : MkR d (insD D 3 (kNs D) f 4) M1' M2' := by
  obtain ⟨hW, hSt, hC, hR, ⟨m, sr, sf, st, g1, g2, g3, g4, g5⟩, g6⟩ := h
  obtain ⟨w1, w2, w3, w4, w5, w6, w7⟩ := hW
  have w1' : 1 ≤ kLn D ∧ kLn D ≤ 2000 ∧ 2 ≤ kP D ∧ kP D ≤ 12 ∧ 1 ≤ kMi D ∧ kMi D ≤ 60 := by
    rcases w1 with z | z
    · omega
    · exact z
  have eR : ∀ r j, kSl (insD D 3 (kNs D) f 4) r j = if r = kNs D then f j else kSl D r j := fun r j => by
    unfold kSl insD
    by_cases c : r = kNs D
    · rw [if_pos ⟨rfl, c, rfl⟩, if_pos c]
    · rw [if_neg (fun z => c z.2.1), if_neg (by omega), if_neg (by omega), if_neg c]
  have eN : kNs (insD D 3 (kNs D) f 4) = kNs D + 1 := rfl
  refine ⟨⟨Or.inr ⟨(by show 1 ≤ kLn D + 1; omega), (by show kLn D + 1 ≤ 2000; omega), w1'.2.2⟩, w2, (by rw [eN]; omega), w4, w5, fun s hs => ?_, w7⟩, hSt, ⟨⟨?_, ?_, x4, ?_, x3, ?_⟩, fun r hr => ?_, fun s hs j hj => ?_, fun i hi => ⟨fun j hj => ?_, fun w hw => ?_⟩⟩, ⟨⟨?_, ?_, y4, ?_, y3, ?_⟩, fun r hr => ?_, fun s hs j hj => ?_, fun i hi => ⟨fun j hj => ?_, fun w hw j hj => ?_⟩⟩, ⟨m, sr, sf, st, g1, ?_, ?_, fun i hi => ?_, g5⟩, g6⟩
  · simp only [eR]
    by_cases c : s = kNs D
    · simp only [if_pos c]
      exact hf
    · simp only [if_neg c]
      exact w6 s (by rw [eN] at hs; omega)
  · rw [i1 _ _ (Or.inl (by unfold inB; omega)) (by omega) (by omega)]; exact hC.1.1
  · rw [i1 _ _ (Or.inl (by unfold inB; omega)) (by omega) (by omega)]; exact hC.1.2.1
  · rw [i1 _ _ (Or.inl (by unfold inB; omega)) (by omega) (by omega)]; exact hC.1.2.2.2.1
  · rw [i1 _ _ (Or.inl (by unfold inB; omega)) (by omega) (by omega)]; exact hC.1.2.2.2.2.2
  · have hr' : r < kNr D := hr
    rw [i1 _ _ (Or.inl (by unfold inB; omega)) (by omega) (by omega), i1 _ _ (Or.inl (by unfold inB; omega)) (by omega) (by omega), l1 _ _ (by unfold inB; omega)]
    exact hC.2.1 r hr'
  · rw [eR]
    by_cases c : s = kNs D
    · rw [if_pos c, c]
      exact x0 j hj
    · have hs' : s < kNs D := by rw [eN] at hs; omega
      rw [if_neg c, i1 _ _ (Or.inl (by unfold inB; omega)) (by omega) (by omega)]
      exact hC.2.2.1 s hs' j hj
  · have hi' : i < kNb D := hi
    rw [i1 _ _ (Or.inl (by unfold inB; omega)) (by omega) (by omega)]
    exact (hC.2.2.2 i hi).1 j hj
  · have hi' : i < kNb D := hi
    rw [i1 _ _ (Or.inl (by unfold inB; omega)) (by omega) (by omega), i1 _ _ (Or.inl (by unfold inB; omega)) (by omega) (by omega), i1 _ _ (Or.inl (by unfold inB; omega)) (by omega) (by omega)]
    exact (hC.2.2.2 i hi).2 w hw
  · rw [i2 _ _ (by omega) (by omega) (by omega) (by omega) (by omega)]; exact hR.1.1
  · rw [i2 _ _ (by omega) (by omega) (by omega) (by omega) (by omega)]; exact hR.1.2.1
  · rw [i2 _ _ (by omega) (by omega) (by omega) (by omega) (by omega)]; exact hR.1.2.2.2.1
  · rw [i2 _ _ (by omega) (by omega) (by omega) (by omega) (by omega)]; exact hR.1.2.2.2.2.2
  · rw [i2 _ _ (by omega) (by omega) (by omega) (by omega) (by omega), i2 _ _ (by omega) (by omega) (by omega) (by omega) (by omega)]
    exact hR.2.1 r hr
  · rw [eR]
    by_cases c : s = kNs D
    · rw [if_pos c, c]
      exact y0 j hj
    · have hs' : s < kNs D := by rw [eN] at hs; omega
      rw [if_neg c, i2 _ _ (by omega) (by omega) (by omega) (by omega) (by omega)]
      exact hR.2.2.1 s hs' j hj
  · rw [i2 _ _ (by omega) (by omega) (by omega) (by omega) (by omega)]; exact (hR.2.2.2 i hi).1 j hj
  · rw [i2 _ _ (by omega) (by omega) (by omega) (by omega) (by omega)]; exact (hR.2.2.2 i hi).2 w hw j hj
  · rw [i1 _ _ (Or.inr ⟨rfl, rfl⟩) (by omega) (by omega)]; exact g2
  · rw [i2 _ _ (by omega) (by omega) (by omega) (by omega) (by omega)]; exact g3
  · rw [i2 _ _ (by omega) (by omega) (by omega) (by omega) (by omega), i2 _ _ (by omega) (by omega) (by omega) (by omega) (by omega), i2 _ _ (by omega) (by omega) (by omega) (by omega) (by omega)]
    exact g4 i hi
theorem PB.numc (h : PB L B M1 M2) (l hi : Int32) : ∃ M' v, f_X6_number M1 1 l hi = some (M', v) ∧ OnT kC M1 M' ∧ PB L B M' M2 := by
  obtain ⟨v1, e1⟩ := h.here l hi
  obtain ⟨M1'', r1, r2, r3⟩ := h.next
  refine ⟨M1'', v1, ?_, r2, r3⟩
  unfold f_X6_number
  rw [oC_1, gd_t, e1, bd_t, r1, bd_t]
theorem PB.w1 (h : PB L B M1 M2) {a k : Nat} {v : Int32} (ha : 3 ≤ a) : PB L B (sI M1 a k v) M2 := by
  exact ((h.sp (n := 0) (P := True)).w1 ha).bad h.n
/-- the end of a stall's line -/
def rsE (x d : Nat) (u : Mem) : Option Mem := if gI u x 5 = 0 then f_X6_readStall_138 u d 0 x else bd (f_X6_number u 1 1 20) fun u24 => f_X6_readStall_138 u24.1 d u24.2 x
theorem e138 {M : Mem} {x : Nat} {v : Int32} (ms : oB shC d 4 = true) (ox : oB shC x 9 = true) (hx : x ≠ d) : f_X6_readStall_138 M d v x = some (sI (sI M x 6 v) d 4 (gI M d 4 + 1)) := by
  unfold f_X6_readStall_138
  rw [ox, gd_t, nx_t, ms, gd_t, nx_t, gI_sI, if_neg (fun z => hx z.1.symm)]
theorem rsE_pb {x : Nat} (ms : oB shC d 4 = true) (ox : oB shC x 9 = true) (hx : x ≠ d) (ix : inB d x) (hd : d = 3 ∨ d = 42) (h : PB L B M1 M2) : ∃ M', rsE x d M1 = some M' ∧ KpC d M1 M' ∧ PB L B M' M2 := by
  have iD : inB d d := by unfold inB; omega
  have x3 : 3 ≤ x := by unfold inB at ix; omega
  unfold rsE
  by_cases c : gI M1 x 5 = 0
  · rw [if_pos c, e138 ms ox hx]
    exact ⟨_, rfl, (KpC.rf.I (Or.inl ix)).I (Or.inl iD), (h.w1 x3).w1 (by omega)⟩
  · obtain ⟨M', v, e1, e2, e3⟩ := h.numc 1 20
    rw [if_neg c, e1, bd_t, e138 ms ox hx]
    exact ⟨_, rfl, ((KpC.T e2).I (Or.inl ix)).I (Or.inl iD), (e3.w1 x3).w1 (by omega)⟩
theorem kind_pb {x : Nat} (ox : oB shC x 9 = true) (ix : inB d x) (hd : d = 3 ∨ d = 42) (h : PB L B M1 M2) : ∃ M', f_X6_readKind M1 1 x = some M' ∧ KpC d M1 M' ∧ PB L B M' M2 := by
  have x3 : 3 ≤ x := by unfold inB at ix; omega
  obtain ⟨b1, e1⟩ := h.isWord (i := 15) (by decide)
  obtain ⟨b2, e2⟩ := h.isWord (i := 16) (by decide)
  obtain ⟨b3, e3⟩ := h.isWord (i := 17) (by decide)
  obtain ⟨Mn, n1, n2, n3⟩ := h.next
  have wr : ∀ v, ∃ M', f_X6_next (sI M1 x 5 v) 1 = some M' ∧ KpC d M1 M' ∧ PB L B M' M2 := fun v => by
    obtain ⟨Mv, v1, v2, v3⟩ := (h.w1 (a := x) (k := 5) (v := v) x3).next
    exact ⟨Mv, v1, (KpC.rf.I (Or.inl ix)).tr (KpC.T v2), v3⟩
  obtain ⟨A0, p0, p1, p2⟩ := wr 0
  obtain ⟨A1, q0, q1, q2⟩ := wr 1
  obtain ⟨A2, r0, r1, r2⟩ := wr 2
  unfold f_X6_readKind
  rw [oC_1, gd_t, e1, bd_t, e2, bd_t, e3, bd_t, h.refuse, bd_t, n1, bd_t, ox, gd_t, gd_t, gd_t, nx_t, nx_t, nx_t, p0, q0, r0, bd_t, bd_t, bd_t]
  cases b1 with
  | true => exact ⟨A0, by rw [bI_t, if_neg (show ¬ (1 : Int32) = 0 by decide)], p1, p2⟩
  | false =>
    rw [bI_f, if_pos rfl]
    cases b2 with
    | true => exact ⟨A1, by rw [bI_t, if_neg (show ¬ (1 : Int32) = 0 by decide)], q1, q2⟩
    | false =>
      rw [bI_f, if_pos rfl]
      cases b3 with
      | true => exact ⟨A2, by rw [bI_t, if_neg (show ¬ (1 : Int32) = 0 by decide)], r1, r2⟩
      | false => exact ⟨Mn, by rw [bI_f, if_pos rfl], KpC.T n2, n3⟩
/-- the reference's end of a stall's line, from its kind on -/
def rsR (i5 : Int32) (Z : Mem) : Option Mem := bd (f_X11_is Z 0 3383428) fun v25 => if v25 = 0 then bd (f_X11_is Z 0 3217420) fun v26 => if v26 = 0 then bd (f_X11_is Z 0 174877291) fun v27 => if v27 = 0 then f_X11_stallLine_149 Z 0 i5 (-1) else f_X11_stallLine_149 Z 0 i5 2 else f_X11_stallLine_149 Z 0 i5 1 else f_X11_stallLine_149 Z 0 i5 0
theorem s160_bad {Z : Mem} {i k : Int32} (g : ¬ gI Z 0 12 = 0) : f_X11_stallLine_160 Z 0 i k = some Z := by
  unfold f_X11_stallLine_160
  rw [oR, gd_t, if_neg g]
theorem kind_both {A Z : Mem} {x i5 a e t c4 c27 : Nat} (ms : oB shC d 4 = true) (ox : oB shC x 9 = true) (hx : x ≠ d) (ix : inB d x) (hd : d = 3 ∨ d = 42) (hi5 : 224 ≤ i5 ∧ i5 + 6 < 280) (ha : n ≤ a) (hG : PG L B A Z a e t) (hc4 : gI A d 4 = nI c4) (hc27 : gI Z 7 27 = nI c27) : ∃ A' Z', (bd (f_X6_readKind A 1 x) (rsE x d)) = some A' ∧ rsR (nI i5) Z = some Z' ∧ KpC d A A' ∧ KpR Z Z' ∧ ((∃ a' e' t', n ≤ a' ∧ PG L B A' Z' a' e' t' ∧ ∃ κ σ An Zn, κ ≤ 2 ∧ σ ≤ 20 ∧ OnT kC (sI A x 5 (nI κ)) An ∧ A' = sI (sI An x 6 (nI σ)) d 4 (nI (c4 + 1)) ∧ OnN kN (sI Z 9 (i5 + 5) (nI κ)) Zn ∧ Z' = sI (sI Zn 9 (i5 + 6) (nI σ)) 7 27 (nI (c27 + 1))) ∨ PB L B A' Z') := by
  have x3 : 3 ≤ x := by unfold inB at ix; omega
  have iD : inB d d := by unfold inB; omega
  have hTK : ∀ {A' Z' a' e' t'}, PG L B A' Z' a' e' t' → n ≤ a' → SP L B n True A' Z' := fun p q => Or.inl ⟨⟨_, _, _, q, p⟩, trivial⟩
  have m5 : nI i5 + 5 = nI (i5 + 5) := nI_add _ 5
  have m6 : nI i5 + 6 = nI (i5 + 6) := nI_add _ 6
  have e204 : ∀ Zn v, RR Zn → gI Zn 7 27 = nI c27 → f_X11_stallLine_204 Zn 0 v (nI (i5 + 6)) 9 = some (sI (sI Zn 9 (i5 + 6) v) 7 27 (nI (c27 + 1))) := fun Zn v hr hz => by
    unfold f_X11_stallLine_204
    rw [aB_t (i5 + 6) zR_9 rfl (by omega) (by decide), gd_t, nx_t, nI_clamp (by omega), oR, gd_t, rr_17 hr.I, bd_t, aB_l (i := 27) zR_7 (by decide), gd_t, nx_t]
    show some (sI (sI Zn 9 (i5 + 6) v) 7 27 (gI (sI Zn 9 (i5 + 6) v) 7 27 + 1)) = _
    rw [gI_sI, if_neg (by omega), hz, nI_1]
  -- a kind that is told
  have told : ∀ κ, κ ≤ 2 → ∃ A' Z', (bd (bd (f_X6_next (sI A x 5 (nI κ)) 1) fun u => some u) (rsE x d)) = some A' ∧ f_X11_stallLine_149 Z 0 (nI i5) (nI κ) = some Z' ∧ KpC d A A' ∧ KpR Z Z' ∧ ((∃ a' e' t', n ≤ a' ∧ PG L B A' Z' a' e' t' ∧ ∃ κ σ An Zn, κ ≤ 2 ∧ σ ≤ 20 ∧ OnT kC (sI A x 5 (nI κ)) An ∧ A' = sI (sI An x 6 (nI σ)) d 4 (nI (c4 + 1)) ∧ OnN kN (sI Z 9 (i5 + 5) (nI κ)) Zn ∧ Z' = sI (sI Zn 9 (i5 + 6) (nI σ)) 7 27 (nI (c27 + 1))) ∨ PB L B A' Z') := fun κ hκ => by
    obtain ⟨a1, e1, t1, h1, hG1⟩ := ((hTK hG ha).w1 (a := x) (k := 5) (v := nI κ) x3).good hG.2.2.2.1 |>.1
    obtain ⟨An, Zn, a2, e2, t2, n1, n2, n3, n4, n5, n6⟩ := hG1.next
    have hS2 : SP L B n True An (sI Zn 9 (i5 + 5) (nI κ)) := (hTK n6 (by have := hG1.2.1.1; omega)).w2 (by decide)
    have oA : OnT kC (sI A x 5 (nI κ)) An := n3.mono (fun _ => tkC_k)
    have oZ : OnN kN (sI Z 9 (i5 + 5) (nI κ)) (sI Zn 9 (i5 + 5) (nI κ)) := (n4.mono (fun _ => tkR_k)).w
    have k5 : gI An x 5 = nI κ := by rw [oA.2 _ _ (by omega), gI_sI, if_pos ⟨rfl, rfl⟩]
    have k4 : gI An d 4 = nI c4 := by rw [oA.2 _ _ (by omega), gI_sI, if_neg (fun z => hx z.1.symm), hc4]
    have k27 : gI (sI Zn 9 (i5 + 5) (nI κ)) 7 27 = nI c27 := by rw [oZ.2.1 _ _ (by omega), gI_sI, if_neg (by omega), hc27]
    have kpc : ∀ {An'}, OnT kC (sI A x 5 (nI κ)) An' → ∀ v w, KpC d A (sI (sI An' x 6 v) d 4 w) := fun o v w => (((KpC.rf.I (Or.inl ix)).tr (KpC.T o)).I (Or.inl ix)).I (Or.inl iD)
    have kpr : ∀ {Zn'}, OnN kN (sI Z 9 (i5 + 5) (nI κ)) Zn' → ∀ v w, KpR Z (sI (sI Zn' 9 (i5 + 6) v) 7 27 w) := fun o v w => (((KpR.rf.I (sl_9 (by omega))).tr (KpR.N o)).I (sl_9 (by omega))).I (sl_7 (by omega))
    have e149 : ∀ r, (if nI κ = 0 then f_X11_stallLine_204 (sI Zn 9 (i5 + 5) (nI κ)) 0 0 (nI (i5 + 6)) 9 else bd (f_X11_number (sI Zn 9 (i5 + 5) (nI κ)) 0 1 20) fun u6 => f_X11_stallLine_204 u6.1 0 u6.2 (nI (i5 + 6)) 9) = r → f_X11_stallLine_149 Z 0 (nI i5) (nI κ) = r := fun r hr => by
      unfold f_X11_stallLine_149 f_X11_stallLine_160
      rw [if_neg (ne_m1 (by omega)), oR, gd_t, if_pos hG.2.2.2.1, n2, bd_t, rr_19 n6.1.2.1, bd_t, m5, m6, aB_t (i5 + 5) zR_9 rfl (by omega) (by decide), gd_t, nx_t, nI_clamp (by omega)]
      exact hr
    rw [n1, bd_t, bd_t]
    unfold rsE
    rw [k5]
    by_cases c : κ = 0
    · subst c
      refine ⟨_, _, ?_, e149 _ (by rw [if_pos (show nI 0 = 0 from rfl), e204 _ _ hS2.r k27]), kpc oA 0 (nI (c4 + 1)), kpr oZ 0 (nI (c27 + 1)), Or.inl ?_⟩
      · rw [if_pos (show nI 0 = 0 from rfl), e138 ms ox hx, k4, nI_1]
      · have hS3 : SP L B n True (sI (sI An x 6 0) d 4 (nI (c4 + 1))) (sI (sI (sI Zn 9 (i5 + 5) (nI 0)) 9 (i5 + 6) 0) 7 27 (nI (c27 + 1))) := (((hS2.w1 x3).w1 (by omega)).w2 (by decide)).w2 (by decide)
        obtain ⟨a3, e3, t3, h3, hG3⟩ := (hS3.good n6.2.2.2.1).1
        exact ⟨a3, e3, t3, h3, hG3, 0, 0, An, _, by omega, by omega, oA, rfl, oZ, rfl⟩
    · have c0 : ¬ nI κ = 0 := nI_ne0 (by omega) (by omega)
      obtain ⟨Am, Zm, v1, v2, p1, p2, p3, p4, p5⟩ := num_sp (l := 1) (H := 21) (lo := 1) (hi := 20) rfl (by decide) (by decide) (by decide) hS2
      have oA2 := oA.tr p3
      have oZ2 := oZ.tr p4
      refine ⟨_, _, ?_, e149 _ (by rw [if_neg c0, p2, bd_t, e204 _ _ p5.r (by rw [p4.2.1 _ _ (by omega), k27])]), kpc oA2 v1 (nI (c4 + 1)), kpr oZ2 v2 (nI (c27 + 1)), ?_⟩
      · rw [if_neg c0, p1, bd_t, e138 ms ox hx, p3.2 _ _ (by omega), k4, nI_1]
      · have hS3 := (((p5.w1 (a := x) (k := 6) (v := v1) x3).w1 (a := d) (k := 4) (v := nI (c4 + 1)) (by omega)).w2 (a := 9) (k := i5 + 6) (v := v2) (by decide)).w2 (a := 7) (k := 27) (v := nI (c27 + 1)) (by decide)
        rcases hS3 with ⟨⟨a3, e3, t3, h3, hG3⟩, -, y, y1, y2, ey1, ey2⟩ | hB
        · exact Or.inl ⟨a3, e3, t3, h3, hG3, κ, y, Am, Zm, hκ, by omega, oA2, by rw [ey1], oZ2, by rw [ey2]⟩
        · exact Or.inr hB
  obtain ⟨b1, f1, f2, -⟩ := isWord_both (i := 15) (by decide) hG.1 hG.2.1
  obtain ⟨b2, g1, g2, -⟩ := isWord_both (i := 16) (by decide) hG.1 hG.2.1
  obtain ⟨b3, h1, h2, -⟩ := isWord_both (i := 17) (by decide) hG.1 hG.2.1
  have f2' : f_X11_is Z 0 3383428 = some (bI b1) := by rw [← wT_c.2.2.2.2.2.2.2.2.2.2.2.2.2.2.2.1]; exact f2 hG.2.2.2.1
  have g2' : f_X11_is Z 0 3217420 = some (bI b2) := by rw [← wT_c.2.2.2.2.2.2.2.2.2.2.2.2.2.2.2.2.1]; exact g2 hG.2.2.2.1
  have h2' : f_X11_is Z 0 174877291 = some (bI b3) := by rw [← wT_c.2.2.2.2.2.2.2.2.2.2.2.2.2.2.2.2.2.1]; exact h2 hG.2.2.2.1
  unfold f_X6_readKind rsR
  rw [oC_1, gd_t, f1, bd_t, g1, bd_t, h1, bd_t, ox, gd_t, gd_t, gd_t, nx_t, nx_t, nx_t, f2', bd_t, g2', bd_t, h2', bd_t]
  cases b1 with
  | true =>
    rw [bI_t, if_neg (show ¬ (1 : Int32) = 0 by decide), if_neg (show ¬ (1 : Int32) = 0 by decide)]
    exact told 0 (by decide)
  | false =>
    rw [bI_f, if_pos rfl, if_pos rfl]
    cases b2 with
    | true =>
      rw [bI_t, if_neg (show ¬ (1 : Int32) = 0 by decide), if_neg (show ¬ (1 : Int32) = 0 by decide)]
      exact told 1 (by decide)
    | false =>
      rw [bI_f, if_pos rfl, if_pos rfl]
      cases b3 with
      | true =>
        rw [bI_t, if_neg (show ¬ (1 : Int32) = 0 by decide), if_neg (show ¬ (1 : Int32) = 0 by decide)]
        exact told 2 (by decide)
      | false =>
        rw [bI_f, if_pos rfl, if_pos rfl]
        obtain ⟨Af, Zf, p1, p2, p3, p4, p5⟩ := hG.fail (k := 1) (by decide) (by decide)
        obtain ⟨An, q1, q2, q3⟩ := p5.next
        obtain ⟨A', r1, r2, r3⟩ := rsE_pb ms ox hx ix hd q3
        have p1' : f_X6_refuse A 1 1 = some Af := p1
        have p2' : f_X11_fails Z 0 1 = some Zf := p2
        refine ⟨A', Zf, ?_, ?_, ((KpC.T p3).tr (KpC.T q2)).tr r2, KpR.N p4, Or.inr r3⟩
        · rw [p1', bd_t, q1, bd_t, bd_t, r1]
        · unfold f_X11_stallLine_149
          rw [if_pos rfl, oR, gd_t, p2', bd_t, s160_bad p5.n]
end L3
