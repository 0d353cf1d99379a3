/-! THE FIRST LINE, A RING -/
section LR
variable {L : Nat} {B : Nat → Int32} {d n : Nat} {D : MK} {M1 M2 M1' M2' : Mem}
/-- a thing more of a kind: a ring (1, 3), a stall (3, 4), a buyer (4, 5), and a line -/
def insD (D : MK) (a0 b0 : Nat) (f : Nat → Nat) (q : Nat) : MK := fun a b c x => if a = a0 ∧ b = b0 ∧ x = 0 then f c else if a = 0 ∧ b = q then b0 + 1 else if a = 0 ∧ b = 2 then D 0 2 0 0 + 1 else D a b c x
def mkD0 (p m : Nat) : MK := fun a b _ _ => if a = 0 ∧ b = 0 then p else if a = 0 ∧ b = 1 then m else if a = 0 ∧ b = 2 then 1 else 0
theorem market_line (hd : d = 3 ∨ d = 42) (h : MkR d D M1 M2) (h0 : kLn D = 0) (hS : SP L B n True M1 M2) : ∃ M1' M2', f_X6_readMarket M1 1 d = some M1' ∧ (∀ k84 : Mem → Option (Mem × Int32), (bd (f_X11_asks M2 0 187429700) fun u6 => bd (gR u6 0 17) fun r7 => bd (f_X11_number_ u6 0 235981828 2 12) fun u8 => gd (aB shR r7 0 24) <| nx (sI u8.1 r7 (24 : Int32).toNatClampNeg u8.2) fun M10 => bd (gR M10 0 17) fun r11 => bd (f_X11_number_ M10 0 5173474771 1 60) fun u12 => gd (aB shR r11 0 25) <| nx (sI u12.1 r11 (25 : Int32).toNatClampNeg u12.2) fun M14 => k84 M14) = k84 M2') ∧ LnE L B n d (kLn D) M1 M2 M1' M2' := by
  have hdm : d ∈ MB := by rcases hd with rfl | rfl <;> decide
  have ms := mb_sh d hdm
  obtain ⟨Ma, Mb, a1, a2, a3, a4, a5⟩ := word_sp (i := 5) (by decide) hS
  obtain ⟨Mc, Md, v1, Me, v2, b1, b2, b3, b4, b5, b6, b7, b8, b9, b10, b11, b12⟩ := fld_w (i0 := 6) (w := 235981828) (x := d) (j := 0) (c := 7) (i := 24) (l := 2) (H := 13) (lo := 2) (hi := 12) wT_c.2.2.2.2.2.2.1.symm (by decide) rfl (by decide) (by decide) (by decide) (by omega) (by decide) a5 a3 a4
  obtain ⟨Mf, Mg, w1, Mh, w2, c1, c2, c3, c4, c5, c6, c7, c8, c9, c10, c11, c12⟩ := fld_w (i0 := 7) (w := 5173474771) (x := d) (j := 1) (c := 7) (i := 25) (l := 1) (H := 61) (lo := 1) (hi := 60) wT_c.2.2.2.2.2.2.2.1.symm (by decide) rfl (by decide) (by decide) (by decide) (by omega) (by decide) b12 b7 b8
  have iB : inB d d := by unfold inB; omega
  refine ⟨sI Mg d 1 w1, sI Mh 7 25 w2, ?_, fun k84 => ?_, c12.im (fun z => ?_), ((KpC.rf.I (Or.inl iB)).I (Or.inl iB)).tr (KpC.T c7), ((KpR.rf.I (sl_7 (by omega))).I (sl_7 (by omega))).tr (KpR.N c8)⟩
  · unfold f_X6_readMarket
    rw [oC_1, gd_t, a1, bd_t, b1, bd_t, b2, bd_t, ms.1, gd_t, nx_t, c1, bd_t, c2, bd_t, nx_t]
  · have a2' : f_X11_asks M2 0 187429700 = some Mb := by rw [← wT_c.2.2.2.2.2.1]; exact a2
    rw [a2', bd_t, rr_17 a5.r, bd_t, b3, bd_t, aB_l (i := 24) zR_7 (by decide), gd_t, nx_t]
    show (bd (gR (sI Me 7 24 v2) 0 17) _) = _
    rw [rr_17 b12.r, bd_t]
    show (bd (f_X11_number_ (sI Me 7 24 v2) 0 5173474771 1 60) _) = _
    rw [c3, bd_t, aB_l (i := 25) zR_7 (by decide), gd_t, nx_t]
    rfl
  · obtain ⟨⟨-, x, x1, x2, ex1, ex2⟩, y, y1, y2, ey1, ey2⟩ := z
    obtain ⟨hW, hSt, hC, hR, ⟨m, sr, sf, st, g1, g2, g3, g4, g5⟩, g6⟩ := h
    have hz : kP D = 0 ∧ kMi D = 0 ∧ kNr D = 0 ∧ kNs D = 0 ∧ kNb D = 0 := by
      rcases hW.1 with q | q
      · exact ⟨q.2.1, q.2.2.1, q.2.2.2.1, q.2.2.2.2.1, q.2.2.2.2.2⟩
      · omega
    have m0 : m = 0 := by
      rcases Nat.eq_zero_or_pos m with q | q
      · exact q
      · have := (g4 0 q).1
        omega
    have r4 := hR.h4
    refine ⟨mkD0 x y, ⟨⟨Or.inr ⟨Nat.le_refl 1, (by decide : 1 ≤ 2000), x1, (by omega : x ≤ 12), y1, (by omega : y ≤ 60)⟩, (by decide : 0 ≤ 3), (by decide : 0 ≤ 8), (by decide : 0 ≤ 6), fun r hr => absurd hr (Nat.not_lt_zero r), fun r hr => absurd hr (Nat.not_lt_zero r), fun r hr => absurd hr (Nat.not_lt_zero r)⟩, fun r _ _ _ => rfl, ⟨⟨?_, ?_, ?_, ?_, ?_, ?_⟩, fun r hr => absurd hr (Nat.not_lt_zero r), fun r hr => absurd hr (Nat.not_lt_zero r), fun r hr => absurd hr (Nat.not_lt_zero r)⟩, ⟨⟨?_, ?_, ?_, ?_, ?_, ?_⟩, fun r hr => absurd hr (Nat.not_lt_zero r), fun r hr => absurd hr (Nat.not_lt_zero r), fun r hr => absurd hr (Nat.not_lt_zero r)⟩, ⟨0, sr, sf, st, by omega, ?_, ?_, fun i hi => by omega, fun r k => ⟨fun q => absurd (show (0 : Nat) = 1 from q) (by decide), fun ⟨i, hi, _⟩ => by omega⟩⟩, fun _ _ => Nat.zero_le _⟩, by rw [h0]; rfl⟩
    · rw [gI_sI, if_neg (by omega), c7.2 _ _ (by omega), gI_sI, if_neg (by omega), gI_sI, if_pos ⟨rfl, rfl⟩, ex1]; rfl
    · rw [gI_sI, if_neg (by omega), gI_sI, if_pos ⟨rfl, rfl⟩, ey1]; rfl
    · rw [gI_sI, if_pos ⟨rfl, rfl⟩, h0]; rfl
    · rw [gI_sI, if_neg (by omega), c7.2 _ _ (by omega), gI_sI, if_neg (by omega), gI_sI, if_neg (by omega), hC.1.2.2.2.1, hz.2.2.1]; rfl
    · rw [gI_sI, if_neg (by omega), c7.2 _ _ (by omega), gI_sI, if_neg (by omega), gI_sI, if_neg (by omega), hC.1.2.2.2.2.1, hz.2.2.2.1]; rfl
    · rw [gI_sI, if_neg (by omega), c7.2 _ _ (by omega), gI_sI, if_neg (by omega), gI_sI, if_neg (by omega), hC.1.2.2.2.2.2, hz.2.2.2.2]; rfl
    · rw [gI_sI, if_neg (by omega), c8.2.1 _ _ (by omega), gI_sI, if_neg (by omega), gI_sI, if_pos ⟨rfl, rfl⟩, ex2]; rfl
    · rw [gI_sI, if_neg (by omega), gI_sI, if_pos ⟨rfl, rfl⟩, ey2]; rfl
    · rw [gI_sI, if_pos ⟨rfl, rfl⟩, h0]; rfl
    · rw [gI_sI, if_neg (by omega), c8.2.1 _ _ (by omega), gI_sI, if_neg (by omega), gI_sI, if_neg (by omega), r4.2.2.2.1, hz.2.2.1]; rfl
    · rw [gI_sI, if_neg (by omega), c8.2.1 _ _ (by omega), gI_sI, if_neg (by omega), gI_sI, if_neg (by omega), r4.2.2.2.2.1, hz.2.2.2.1]; rfl
    · rw [gI_sI, if_neg (by omega), c8.2.1 _ _ (by omega), gI_sI, if_neg (by omega), gI_sI, if_neg (by omega), r4.2.2.2.2.2, hz.2.2.2.2]; rfl
    · rw [gI_sI, if_neg (by omega), c7.2 _ _ (by unfold kC; omega), gI_sI, if_neg (by omega), gI_sI, if_neg (by omega), g2, m0]
    · rw [gI_sI, if_neg (by omega), c8.2.1 _ _ (by omega), gI_sI, if_neg (by omega), gI_sI, if_neg (by omega), g3, m0]
/-- no line tells the ring that is to come stuck -/
theorem StkM.new (h : StkM M1 M2 D) {r m : Nat} (hr : kNr D ≤ r) : kSt D r m = 0 := by
  obtain ⟨⟨n, sr, sf, st, g1, g2, g3, g4, g5⟩, g6⟩ := h
  have := g6 r m
  by_cases c : kSt D r m = 1
  · obtain ⟨i, hi, e, -⟩ := (g5 r m).mp c
    have := (g4 i hi).1
    omega
  · omega
theorem MkR.ring (h : MkR d D M1 M2) (hl : 0 < kLn D) (hll : kLn D < 2000) (hn : kNr D < 3) {t e : Nat} (ht : t ≤ 60) (he : e ≤ 1)
    (i1 : ∀ a k, (inB d a ∨ (a = 1 ∧ k = 8)) → a ≠ d + 4 + kNr D → ¬ (a = d ∧ (k = 3 ∨ k = 2)) → gI M1' a k = gI M1 a k) (l1 : ∀ a k, inB d a → a ≠ d + 4 + kNr D → gL M1' a k = gL M1 a k) (x0 : gI M1' (d + 4 + kNr D) 0 = nI t) (x1 : gI M1' (d + 4 + kNr D) 1 = nI e) (x2 : gL M1' (d + 4 + kNr D) 2 = 0) (x3 : gI M1' d 3 = nI (kNr D + 1)) (x4 : gI M1' d 2 = nI (kLn D + 1))
    (i2 : ∀ a k, 6 ≤ a → a ≤ 12 → ¬ (a = 8 ∧ (k = 2 * (12 + kNr D) ∨ k = 2 * (12 + kNr D) + 1)) → ¬ (a = 7 ∧ k = 26) → ¬ (a = 6 ∧ k = 4) → gI M2' a k = gI M2 a k) (y0 : gI M2' 8 (2 * (12 + kNr D)) = nI t) (y1 : gI M2' 8 (2 * (12 + kNr D) + 1) = if e = 1 then 1 else -1) (y3 : gI M2' 7 26 = nI (kNr D + 1)) (y4 : gI M2' 6 4 = nI (kLn D + 1)) (hd : d = 3 ∨ d = 42) : MkR d (insD D 1 (kNr D) (fun c => if c = 0 then t else e) 3) M1' M2' := by
  have hS := h.2.2.2.2
  obtain ⟨hW, hSt, hC, hR, ⟨m, sr, sf, st, g1, g2, g3, g4, g5⟩, g6⟩ := h
  obtain ⟨w1, w2, w3, w4, w5, w6, w7⟩ := hW
  have w1' : 1 ≤ kLn D ∧ kLn D ≤ 2000 ∧ 2 ≤ kP D ∧ kP D ≤ 12 ∧ 1 ≤ kMi D ∧ kMi D ≤ 60 := by
    rcases w1 with z | z
    · omega
    · exact z
  have eR : ∀ r j, kRg (insD D 1 (kNr D) (fun c => if c = 0 then t else e) 3) r j = if r = kNr D then (if j = 0 then t else e) else kRg D r j := fun r j => by
    unfold kRg insD
    by_cases c : r = kNr D
    · rw [if_pos ⟨rfl, c, rfl⟩, if_pos c]
    · rw [if_neg (fun z => c z.2.1), if_neg (by omega), if_neg (by omega), if_neg c]
  have eN : kNr (insD D 1 (kNr D) (fun c => if c = 0 then t else e) 3) = kNr D + 1 := rfl
  have n26 : gI M2 7 26 = nI (kNr D) := hR.h4.2.2.2.1
  refine ⟨⟨Or.inr ⟨(by show 1 ≤ kLn D + 1; omega), (by show kLn D + 1 ≤ 2000; omega), w1'.2.2⟩, (by rw [eN]; omega), w3, w4, fun r hr => ?_, fun s hs => ?_, w7⟩, fun r m' hr hm => ?_, ⟨⟨?_, ?_, x4, x3, ?_, ?_⟩, fun r hr => ?_, fun s hs j hj => ?_, fun i hi => ⟨fun j hj => ?_, fun w hw => ?_⟩⟩, ⟨⟨?_, ?_, y4, y3, ?_, ?_⟩, fun r hr => ?_, fun s hs j hj => ?_, fun i hi => ⟨fun j hj => ?_, fun w hw j hj => ?_⟩⟩, ⟨m, sr, sf, st, g1, ?_, ?_, fun i hi => ?_, g5⟩, g6⟩
  · rw [eR, eR]
    by_cases c : r = kNr D
    · rw [if_pos c, if_pos c]
      exact ⟨by simpa using ht, by simpa using he, fun k => g6 r k⟩
    · rw [if_neg c, if_neg c]
      exact w5 r (by rw [eN] at hr; omega)
  · exact ⟨Nat.lt_succ_of_lt (w6 s hs).1, (w6 s hs).2⟩
  · by_cases c : r < kNr D
    · exact hSt r m' c hm
    · exact hS.new (by omega)
  · rw [i1 _ _ (Or.inl (by unfold inB; omega)) (by omega) (by omega)]; exact hC.1.1
  · rw [i1 _ _ (Or.inl (by unfold inB; omega)) (by omega) (by omega)]; exact hC.1.2.1
  · rw [i1 _ _ (Or.inl (by unfold inB; omega)) (by omega) (by omega)]; exact hC.1.2.2.2.2.1
  · rw [i1 _ _ (Or.inl (by unfold inB; omega)) (by omega) (by omega)]; exact hC.1.2.2.2.2.2
  · rw [eR, eR]
    by_cases c : r = kNr D
    · subst c
      rw [if_pos rfl, if_pos rfl, x0, x1, x2]
      refine ⟨by simp, by simp, fun k hk => ?_⟩
      rw [b000 k hk]
      have : kSt (insD D 1 (kNr D) (fun c => if c = 0 then t else e) 3) (kNr D) k = 0 := hS.new (Nat.le_refl _)
      rw [this]
      rfl
    · have hr' : r < kNr D := by rw [eN] at hr; omega
      rw [if_neg c, if_neg c, i1 _ _ (Or.inl (by unfold inB; omega)) (by omega) (by omega), i1 _ _ (Or.inl (by unfold inB; omega)) (by omega) (by omega), l1 _ _ (by unfold inB; omega) (by omega)]
      exact hC.2.1 r hr'
  · have hs' : s < kNs D := hs
    rw [i1 _ _ (Or.inl (by unfold inB; omega)) (by omega) (by omega)]
    exact hC.2.2.1 s hs j hj
  · have hi' : i < kNb D := hi
    rw [i1 _ _ (Or.inl (by unfold inB; omega)) (by omega) (by omega)]
    exact (hC.2.2.2 i hi).1 j hj
  · have hi' : i < kNb D := hi
    rw [i1 _ _ (Or.inl (by unfold inB; omega)) (by omega) (by omega), i1 _ _ (Or.inl (by unfold inB; omega)) (by omega) (by omega), i1 _ _ (Or.inl (by unfold inB; omega)) (by omega) (by omega)]
    exact (hC.2.2.2 i hi).2 w hw
  · rw [i2 _ _ (by omega) (by omega) (by omega) (by omega) (by omega)]; exact hR.1.1
  · rw [i2 _ _ (by omega) (by omega) (by omega) (by omega) (by omega)]; exact hR.1.2.1
  · rw [i2 _ _ (by omega) (by omega) (by omega) (by omega) (by omega)]; exact hR.1.2.2.2.2.1
  · rw [i2 _ _ (by omega) (by omega) (by omega) (by omega) (by omega)]; exact hR.1.2.2.2.2.2
  · rw [eR, eR]
    by_cases c : r = kNr D
    · subst c
      rw [if_pos rfl, if_pos rfl]
      exact ⟨by simpa using y0, by simpa using y1⟩
    · have hr' : r < kNr D := by rw [eN] at hr; omega
      rw [if_neg c, if_neg c, i2 _ _ (by omega) (by omega) (by omega) (by omega) (by omega), i2 _ _ (by omega) (by omega) (by omega) (by omega) (by omega)]
      exact hR.2.1 r hr'
  · rw [i2 _ _ (by omega) (by omega) (by omega) (by omega) (by omega)]; exact hR.2.2.1 s hs j hj
  · rw [i2 _ _ (by omega) (by omega) (by omega) (by omega) (by omega)]; exact (hR.2.2.2 i hi).1 j hj
  · rw [i2 _ _ (by omega) (by omega) (by omega) (by omega) (by omega)]; exact (hR.2.2.2 i hi).2 w hw j hj
  · rw [i1 _ _ (Or.inr ⟨rfl, rfl⟩) (by omega) (by omega)]; exact g2
  · rw [i2 _ _ (by omega) (by omega) (by omega) (by omega) (by omega)]; exact g3
  · rw [i2 _ _ (by omega) (by omega) (by omega) (by omega) (by omega), i2 _ _ (by omega) (by omega) (by omega) (by omega) (by omega), i2 _ _ (by omega) (by omega) (by omega) (by omega) (by omega)]
    exact ⟨by rw [eN]; have := (g4 i hi).1; omega, (g4 i hi).2⟩
end LR
