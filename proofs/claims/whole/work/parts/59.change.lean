/-! A MARKET THAT IS CHANGED: one number of it -/
def upD (D : MK) (t i j v : Nat) : MK := fun a b c e => if a = t ∧ b = i ∧ c = j ∧ e = 0 then v else D a b c e
theorem upD_ne {D : MK} {t i j v a b c e : Nat} (h : a ≠ t) : upD D t i j v a b c e = D a b c e := if_neg (fun z => h z.1)
section UP
variable {D : MK} {x j v : Nat}
theorem up_by {y j' : Nat} : kBy (upD D 4 x j v) y j' = if y = x ∧ j' = j then v else kBy D y j' := by
  unfold kBy upD
  by_cases e : y = x ∧ j' = j
  · rw [if_pos e, if_pos ⟨rfl, e.1, e.2, rfl⟩]
  · rw [if_neg e, if_neg (fun z => e ⟨z.2.1, z.2.2.1⟩)]
theorem up_sl {y j' : Nat} : kSl (upD D 3 x j v) y j' = if y = x ∧ j' = j then v else kSl D y j' := by
  unfold kSl upD
  by_cases e : y = x ∧ j' = j
  · rw [if_pos e, if_pos ⟨rfl, e.1, e.2, rfl⟩]
  · rw [if_neg e, if_neg (fun z => e ⟨z.2.1, z.2.2.1⟩)]
theorem up_rg {y j' : Nat} : kRg (upD D 1 x j v) y j' = if y = x ∧ j' = j then v else kRg D y j' := by
  unfold kRg upD
  by_cases e : y = x ∧ j' = j
  · rw [if_pos e, if_pos ⟨rfl, e.1, e.2, rfl⟩]
  · rw [if_neg e, if_neg (fun z => e ⟨z.2.1, z.2.2.1⟩)]
theorem wf_place (hW : WFD D) (hv : v < kP D) : WFD (upD D 4 x 0 v) := by
  have n0 : ∀ k, upD D 4 x 0 v 0 k 0 0 = D 0 k 0 0 := fun k => upD_ne (by decide)
  have n1 : ∀ a b, upD D 4 x 0 v 1 a b 0 = D 1 a b 0 := fun a b => upD_ne (by decide)
  have n2 : ∀ a b, upD D 4 x 0 v 2 a b 0 = D 2 a b 0 := fun a b => upD_ne (by decide)
  have n3 : ∀ a b, upD D 4 x 0 v 3 a b 0 = D 3 a b 0 := fun a b => upD_ne (by decide)
  have n5 : ∀ a b c, upD D 4 x 0 v 5 a b c = D 5 a b c := fun a b c => upD_ne (by decide)
  unfold WFD
  simp only [up_by]
  simp only [kP, kMi, kLn, kNr, kNs, kNb, kRg, kSt, kSl, kWt, n0, n1, n2, n3, n5]
  obtain ⟨w1, w2, w3, w4, w5, w6, w7⟩ := hW
  refine ⟨w1, w2, w3, w4, w5, w6, fun y hy => ?_⟩
  have := w7 y hy
  simp only [Nat.reduceEqDiff, and_false, and_true, if_false]
  refine ⟨?_, this.2⟩
  split
  · exact hv
  · exact this.1
theorem wf_price (hW : WFD D) (hv : v ≤ 99) : WFD (upD D 3 x 4 v) := by
  have n0 : ∀ k, upD D 3 x 4 v 0 k 0 0 = D 0 k 0 0 := fun k => upD_ne (by decide)
  have n1 : ∀ a b, upD D 3 x 4 v 1 a b 0 = D 1 a b 0 := fun a b => upD_ne (by decide)
  have n2 : ∀ a b, upD D 3 x 4 v 2 a b 0 = D 2 a b 0 := fun a b => upD_ne (by decide)
  have n4 : ∀ a b, upD D 3 x 4 v 4 a b 0 = D 4 a b 0 := fun a b => upD_ne (by decide)
  have n5 : ∀ a b c, upD D 3 x 4 v 5 a b c = D 5 a b c := fun a b c => upD_ne (by decide)
  unfold WFD
  simp only [up_sl]
  simp only [kP, kMi, kLn, kNr, kNs, kNb, kRg, kSt, kBy, kWt, n0, n1, n2, n4, n5]
  obtain ⟨w1, w2, w3, w4, w5, w6, w7⟩ := hW
  refine ⟨w1, w2, w3, w4, w5, fun y hy => ?_, w7⟩
  have := w6 y hy
  simp only [Nat.reduceEqDiff, and_false, and_true, if_false]
  refine ⟨this.1, this.2.1, this.2.2.1, this.2.2.2.1, ?_, this.2.2.2.2.2.1, this.2.2.2.2.2.2⟩
  split
  · exact hv
  · exact this.2.2.2.2.1
theorem wf_turns (hW : WFD D) (hv : v ≤ 60) : WFD (upD D 1 x 0 v) := by
  have n0 : ∀ k, upD D 1 x 0 v 0 k 0 0 = D 0 k 0 0 := fun k => upD_ne (by decide)
  have n2 : ∀ a b, upD D 1 x 0 v 2 a b 0 = D 2 a b 0 := fun a b => upD_ne (by decide)
  have n3 : ∀ a b, upD D 1 x 0 v 3 a b 0 = D 3 a b 0 := fun a b => upD_ne (by decide)
  have n4 : ∀ a b, upD D 1 x 0 v 4 a b 0 = D 4 a b 0 := fun a b => upD_ne (by decide)
  have n5 : ∀ a b c, upD D 1 x 0 v 5 a b c = D 5 a b c := fun a b c => upD_ne (by decide)
  unfold WFD
  simp only [up_rg]
  simp only [kP, kMi, kLn, kNr, kNs, kNb, kSl, kSt, kBy, kWt, n0, n2, n3, n4, n5]
  obtain ⟨w1, w2, w3, w4, w5, w6, w7⟩ := hW
  refine ⟨w1, w2, w3, w4, fun y hy => ?_, w6, w7⟩
  have := w5 y hy
  simp only [Nat.reduceEqDiff, and_false, and_true, if_false]
  refine ⟨?_, this.2⟩
  split
  · exact hv
  · exact this.1
theorem st_up {t : Nat} (h : StkIn D) (h0 : t ≠ 0) (h2 : t ≠ 2) : StkIn (upD D t x j v) := by
  intro r m hr hm
  have e0 : ∀ k, upD D t x j v 0 k 0 0 = D 0 k 0 0 := fun k => upD_ne (fun z => h0 z.symm)
  unfold kNr at hr
  unfold kMi at hm
  rw [e0] at hr hm
  unfold kSt
  rw [upD_ne (fun z => h2 z.symm)]
  exact h r m hr hm
variable {M : Mem} {p : Nat}
theorem cm_place (h : CM M p D) (hn : kNs D ≤ 8 ∧ kNr D ≤ 3) : CM (sI M (p + 15 + 4 * x) 0 (nI v)) p (upD D 4 x 0 v) := by
  have n0 : ∀ k, upD D 4 x 0 v 0 k 0 0 = D 0 k 0 0 := fun k => upD_ne (by decide)
  have n1 : ∀ a b, upD D 4 x 0 v 1 a b 0 = D 1 a b 0 := fun a b => upD_ne (by decide)
  have n2 : ∀ a b, upD D 4 x 0 v 2 a b 0 = D 2 a b 0 := fun a b => upD_ne (by decide)
  have n3 : ∀ a b, upD D 4 x 0 v 3 a b 0 = D 3 a b 0 := fun a b => upD_ne (by decide)
  have n5 : ∀ a b c, upD D 4 x 0 v 5 a b c = D 5 a b c := fun a b c => upD_ne (by decide)
  unfold CM
  simp only [up_by]
  simp only [kP, kMi, kLn, kNr, kNs, kNb, kRg, kSt, kSl, kWt, n0, n1, n2, n3, n5]
  obtain ⟨h1, h2, h3, h4⟩ := h
  refine ⟨?_, fun r hr => ?_, fun s hs j hj => ?_, fun i hi => ⟨fun j hj => ?_, fun w hw => ?_⟩⟩
  · simp only [gI_sI, show ¬ p = p + 15 + 4 * x by omega, false_and, if_false]
    exact h1
  · have : r < kNr D := hr
    simp only [gI_sI, gL_sI, show ¬ p + 4 + r = p + 15 + 4 * x by omega, false_and, if_false]
    exact h2 r hr
  · have : s < kNs D := hs
    simp only [gI_sI, show ¬ p + 7 + s = p + 15 + 4 * x by omega, false_and, if_false]
    exact h3 s hs j hj
  · rw [gI_sI]
    by_cases e : i = x ∧ j = 0
    · rw [if_pos ⟨by omega, e.2⟩, if_pos e]
    · rw [if_neg (by omega), if_neg e]
      exact (h4 i hi).1 j hj
  · simp only [Nat.reduceEqDiff, and_false, if_false] at hw
    simp only [gI_sI, show ¬ p + 16 + 4 * i = p + 15 + 4 * x by omega, show ¬ p + 17 + 4 * i = p + 15 + 4 * x by omega, show ¬ p + 18 + 4 * i = p + 15 + 4 * x by omega, false_and, if_false]
    exact (h4 i hi).2 w hw
theorem cm_price (h : CM M p D) (hx : x < 8) (hn : kNs D ≤ 8 ∧ kNr D ≤ 3) : CM (sI M (p + 7 + x) 4 (nI v)) p (upD D 3 x 4 v) := by
  have n0 : ∀ k, upD D 3 x 4 v 0 k 0 0 = D 0 k 0 0 := fun k => upD_ne (by decide)
  have n1 : ∀ a b, upD D 3 x 4 v 1 a b 0 = D 1 a b 0 := fun a b => upD_ne (by decide)
  have n2 : ∀ a b, upD D 3 x 4 v 2 a b 0 = D 2 a b 0 := fun a b => upD_ne (by decide)
  have n4 : ∀ a b, upD D 3 x 4 v 4 a b 0 = D 4 a b 0 := fun a b => upD_ne (by decide)
  have n5 : ∀ a b c, upD D 3 x 4 v 5 a b c = D 5 a b c := fun a b c => upD_ne (by decide)
  unfold CM
  simp only [up_sl]
  simp only [kP, kMi, kLn, kNr, kNs, kNb, kRg, kSt, kBy, kWt, n0, n1, n2, n4, n5]
  obtain ⟨h1, h2, h3, h4⟩ := h
  refine ⟨?_, fun r hr => ?_, fun s hs j hj => ?_, fun i hi => ⟨fun j hj => ?_, fun w hw => ?_⟩⟩
  · simp only [gI_sI, show ¬ p = p + 7 + x by omega, false_and, if_false]
    exact h1
  · have : r < kNr D := hr
    simp only [gI_sI, gL_sI, show ¬ p + 4 + r = p + 7 + x by omega, false_and, if_false]
    exact h2 r hr
  · rw [gI_sI]
    by_cases e : s = x ∧ j = 4
    · rw [if_pos ⟨by omega, e.2⟩, if_pos e]
    · rw [if_neg (by omega), if_neg e]
      exact h3 s hs j hj
  · simp only [gI_sI, show ¬ p + 15 + 4 * i = p + 7 + x by omega, false_and, if_false]
    exact (h4 i hi).1 j hj
  · simp only [gI_sI, show ¬ p + 16 + 4 * i = p + 7 + x by omega, show ¬ p + 17 + 4 * i = p + 7 + x by omega, show ¬ p + 18 + 4 * i = p + 7 + x by omega, false_and, if_false]
    exact (h4 i hi).2 w hw
theorem cm_turns (h : CM M p D) (hx : x < 3) (hn : kNs D ≤ 8 ∧ kNr D ≤ 3) : CM (sI M (p + 4 + x) 0 (nI v)) p (upD D 1 x 0 v) := by
  have n0 : ∀ k, upD D 1 x 0 v 0 k 0 0 = D 0 k 0 0 := fun k => upD_ne (by decide)
  have n2 : ∀ a b, upD D 1 x 0 v 2 a b 0 = D 2 a b 0 := fun a b => upD_ne (by decide)
  have n3 : ∀ a b, upD D 1 x 0 v 3 a b 0 = D 3 a b 0 := fun a b => upD_ne (by decide)
  have n4 : ∀ a b, upD D 1 x 0 v 4 a b 0 = D 4 a b 0 := fun a b => upD_ne (by decide)
  have n5 : ∀ a b c, upD D 1 x 0 v 5 a b c = D 5 a b c := fun a b c => upD_ne (by decide)
  unfold CM
  simp only [up_rg]
  simp only [kP, kMi, kLn, kNr, kNs, kNb, kSl, kSt, kBy, kWt, n0, n2, n3, n4, n5]
  obtain ⟨h1, h2, h3, h4⟩ := h
  refine ⟨?_, fun r hr => ?_, fun s hs j hj => ?_, fun i hi => ⟨fun j hj => ?_, fun w hw => ?_⟩⟩
  · simp only [gI_sI, show ¬ p = p + 4 + x by omega, false_and, if_false]
    exact h1
  · have g := h2 r hr
    refine ⟨?_, ?_, g.2.2⟩
    · rw [gI_sI]
      by_cases e : r = x
      · rw [if_pos ⟨by omega, rfl⟩, if_pos ⟨e, trivial⟩]
      · rw [if_neg (by omega), if_neg (by omega)]
        exact g.1
    · rw [gI_sI, if_neg (by omega), if_neg (by omega)]
      exact g.2.1
  · simp only [gI_sI, show ¬ p + 7 + s = p + 4 + x by omega, false_and, if_false]
    exact h3 s hs j hj
  · simp only [gI_sI, show ¬ p + 15 + 4 * i = p + 4 + x by omega, false_and, if_false]
    exact (h4 i hi).1 j hj
  · simp only [gI_sI, show ¬ p + 16 + 4 * i = p + 4 + x by omega, show ¬ p + 17 + 4 * i = p + 4 + x by omega, show ¬ p + 18 + 4 * i = p + 4 + x by omega, false_and, if_false]
    exact (h4 i hi).2 w hw
theorem rm_place (h : RM M 0 D) : RM (sI M 10 (4 * x) (nI v)) 0 (upD D 4 x 0 v) := by
  have n0 : ∀ k, upD D 4 x 0 v 0 k 0 0 = D 0 k 0 0 := fun k => upD_ne (by decide)
  have n1 : ∀ a b, upD D 4 x 0 v 1 a b 0 = D 1 a b 0 := fun a b => upD_ne (by decide)
  have n2 : ∀ a b, upD D 4 x 0 v 2 a b 0 = D 2 a b 0 := fun a b => upD_ne (by decide)
  have n3 : ∀ a b, upD D 4 x 0 v 3 a b 0 = D 3 a b 0 := fun a b => upD_ne (by decide)
  have n5 : ∀ a b c, upD D 4 x 0 v 5 a b c = D 5 a b c := fun a b c => upD_ne (by decide)
  have g : ∀ a k, a ≠ 10 → gI (sI M 10 (4 * x) (nI v)) a k = gI M a k := fun a k q => by rw [gI_sI, if_neg (fun z => q z.1)]
  unfold RM RM0 RMs
  simp only [up_by]
  simp only [kP, kMi, kLn, kNr, kNs, kNb, kRg, kSt, kSl, kWt, n0, n1, n2, n3, n5, g 7 _ (by decide), g 6 _ (by decide), g 8 _ (by decide), g 9 _ (by decide), g 11 _ (by decide), g 12 _ (by decide)]
  obtain ⟨⟨h1, h2, h3, h4⟩, hs⟩ := h
  refine ⟨⟨h1, h2, h3, fun i hi => ⟨fun j hj => ?_, fun w hw => ?_⟩⟩, hs⟩
  · rw [gI_sI]
    by_cases e : i = x ∧ j = 0
    · rw [if_pos ⟨rfl, by omega⟩, if_pos e]
    · rw [if_neg (by omega), if_neg e]
      exact (h4 i hi).1 j hj
  · simp only [Nat.reduceEqDiff, and_false, if_false] at hw
    exact (h4 i hi).2 w hw
theorem rm_price (h : RM M 0 D) : RM (sI M 9 (7 * x + 4) (nI v)) 0 (upD D 3 x 4 v) := by
  have n0 : ∀ k, upD D 3 x 4 v 0 k 0 0 = D 0 k 0 0 := fun k => upD_ne (by decide)
  have n1 : ∀ a b, upD D 3 x 4 v 1 a b 0 = D 1 a b 0 := fun a b => upD_ne (by decide)
  have n2 : ∀ a b, upD D 3 x 4 v 2 a b 0 = D 2 a b 0 := fun a b => upD_ne (by decide)
  have n4 : ∀ a b, upD D 3 x 4 v 4 a b 0 = D 4 a b 0 := fun a b => upD_ne (by decide)
  have n5 : ∀ a b c, upD D 3 x 4 v 5 a b c = D 5 a b c := fun a b c => upD_ne (by decide)
  have g : ∀ a k, a ≠ 9 → gI (sI M 9 (7 * x + 4) (nI v)) a k = gI M a k := fun a k q => by rw [gI_sI, if_neg (fun z => q z.1)]
  unfold RM RM0 RMs
  simp only [up_sl]
  simp only [kP, kMi, kLn, kNr, kNs, kNb, kRg, kSt, kBy, kWt, n0, n1, n2, n4, n5, g 7 _ (by decide), g 6 _ (by decide), g 8 _ (by decide), g 10 _ (by decide), g 11 _ (by decide), g 12 _ (by decide)]
  obtain ⟨⟨h1, h2, h3, h4⟩, hs⟩ := h
  refine ⟨⟨h1, h2, fun s hs j hj => ?_, h4⟩, hs⟩
  rw [gI_sI]
  by_cases e : s = x ∧ j = 4
  · rw [if_pos ⟨rfl, by omega⟩, if_pos e]
  · rw [if_neg (by omega), if_neg e]
    exact h3 s hs j hj
theorem rm_turns (h : RM M 0 D) : RM (sI M 8 (2 * x) (nI v)) 0 (upD D 1 x 0 v) := by
  have n0 : ∀ k, upD D 1 x 0 v 0 k 0 0 = D 0 k 0 0 := fun k => upD_ne (by decide)
  have n2 : ∀ a b, upD D 1 x 0 v 2 a b 0 = D 2 a b 0 := fun a b => upD_ne (by decide)
  have n3 : ∀ a b, upD D 1 x 0 v 3 a b 0 = D 3 a b 0 := fun a b => upD_ne (by decide)
  have n4 : ∀ a b, upD D 1 x 0 v 4 a b 0 = D 4 a b 0 := fun a b => upD_ne (by decide)
  have n5 : ∀ a b c, upD D 1 x 0 v 5 a b c = D 5 a b c := fun a b c => upD_ne (by decide)
  have g : ∀ a k, a ≠ 8 → gI (sI M 8 (2 * x) (nI v)) a k = gI M a k := fun a k q => by rw [gI_sI, if_neg (fun z => q z.1)]
  unfold RM RM0 RMs
  simp only [up_rg]
  simp only [kP, kMi, kLn, kNr, kNs, kNb, kSl, kSt, kBy, kWt, n0, n2, n3, n4, n5, g 7 _ (by decide), g 6 _ (by decide), g 9 _ (by decide), g 10 _ (by decide), g 11 _ (by decide), g 12 _ (by decide)]
  obtain ⟨⟨h1, h2, h3, h4⟩, hs⟩ := h
  refine ⟨⟨h1, fun r hr => ⟨?_, ?_⟩, h3, h4⟩, hs⟩
  · rw [gI_sI]
    by_cases e : r = x
    · rw [if_pos ⟨rfl, by omega⟩, if_pos ⟨e, trivial⟩]
    · rw [if_neg (by omega), if_neg (by omega)]
      exact (h2 r hr).1
  · rw [gI_sI, if_neg (by omega)]
    simpa using (h2 r hr).2
end UP
theorem CM.i0 {M : Mem} {p k : Nat} {v : Int32} {D : MK} (h : CM M p D) (hW : WFD D) (hp : 0 < p) : CM (sI M 0 k v) p D :=
  h.keep hW.n (fun a h1 h2 => ⟨fun j => by rw [gI_sI, if_neg (by omega)], fun _ => rfl⟩)
theorem im_off {M : Mem} {a x : Nat} {v : Int32} (hs : slR 0 a x) : ∀ j, j < 3 → ∀ q w, (q, w) ∈ cpL' → ∀ k, k < w → gI (sI M a x v) q (w * (1 + j) + k) = gI M q (w * (1 + j) + k) := fun j _ q w hq k hk => by
  rw [gI_sI, if_neg (fun z => slR_ne (show 1 + j ≠ 0 by omega) hq hk (by rw [z.1, z.2]; exact hs))]
theorem p_or {p d : Nat} {D : MK} {M1 M2 : Mem} (h : Rel0 p d D M1 M2) : p = 3 ∨ p = 42 := by
  rcases h.2.2.2.2.1 with z | z <;> omega
theorem eq_moves {M1 M2 : Mem} (h : Rel M1 M2) (a b : Int32) : Same (f_X10_moves M1 0 a b) (f_X11_moves M2 0 a b) := by
  obtain ⟨p, d, D, h, hk⟩ := h
  have h' := h.r0
  have hb := h.ba
  unfold f_X10_moves f_X11_moves
  rw [oC_0, gd_t, h.g1, bd_t, h.oP, gd_t, oR, gd_t, nx_t, gB1 h, bd_t, gB2 h', bd_t]
  rcases ix_or a (kNb D) (by omega) with z | ⟨x, hx, rfl⟩
  · rw [if_neg z, if_pos rfl, if_pos rfl]
    exact same_no h' hk _
  rw [if_pos (ix_in hx (by omega)), if_neg (show ¬ (1 : Int32) = 0 by decide), if_neg (show ¬ (1 : Int32) = 0 by decide), gP1 h, bd_t, gP2 h', bd_t]
  rcases ix_or b (kP D) (by omega) with z | ⟨v, hv, rfl⟩
  · rw [if_neg z, if_pos rfl, if_pos rfl]
    exact same_no h' hk _
  obtain ⟨g1, g2, g3, g4, g5⟩ := by_rd h hx
  have hp := p_or h
  rw [if_pos (ix_in hv (by omega)), if_neg (show ¬ (1 : Int32) = 0 by decide), if_neg (show ¬ (1 : Int32) = 0 by decide), g1, bd_t, g2, gd_t, g3, bd_t, g4, gd_t, nx_t, nx_t, g5 0 (by decide), rr_20 h'.r, bd_t, m4_0, aB_t (4 * x) zR_10 rfl (by omega) (by decide), gd_t, nx_t, nI_clamp (by omega), show gI (sI M2 0 0 0) 10 (4 * x) = nI (kBy D x 0) by simpa using (h'.rm.1.2.2.2 x hx).1 0 (by decide)]
  refine ⟨_, _, _, rfl, rfl, p, d, upD D 4 x 0 v, h'.mk' h.c.I.I h'.r.I rfl rfl (wf_place h.wf hv) (st_up h.st (by decide) (by decide)) ((cm_place h.cm ⟨h.wf.n.2.1, h.wf.n.1⟩).i0 (wf_place h.wf hv) (by omega)) (rm_place h'.rm) (fun a z => ⟨fun k => ?_, fun _ => rfl⟩) (fun a k z => ?_) (fun _ => rfl) (im_off ⟨24, by decide, by omega, by omega⟩), Or.inl ?_⟩
  · rw [gI_sI, if_neg (by omega), gI_sI, if_neg (by omega)]
  · rw [gI_sI, if_neg (by omega)]
  · rw [gI_sI, if_pos ⟨rfl, rfl⟩]
theorem m7_4 (a : Nat) : (7 : Int32) * nI a + 4 = nI (7 * a + 4) := mk_ix 7 rfl a 4
theorem m2_0 (a : Nat) : (2 : Int32) * nI a = nI (2 * a) := by rw [show (2 : Int32) = nI 2 from rfl, pk_mul]
theorem eq_offer {M1 M2 : Mem} (h : Rel M1 M2) (a b : Int32) : Same (f_X10_offer M1 0 a b) (f_X11_offer M2 0 a b) := by
  obtain ⟨p, d, D, h, hk⟩ := h
  have h' := h.r0
  have hb := h.ba
  unfold f_X10_offer f_X11_offer
  rw [oC_0, gd_t, h.g1, bd_t, h.oP, gd_t, oR, gd_t, nx_t, gS1 h, bd_t, gS2 h', bd_t]
  rcases ix_or a (kNs D) (by omega) with z | ⟨x, hx, rfl⟩
  · rw [if_neg z, if_pos rfl, if_pos rfl]
    exact same_no h' hk _
  rw [if_pos (ix_in hx (by omega)), if_neg (show ¬ (1 : Int32) = 0 by decide), if_neg (show ¬ (1 : Int32) = 0 by decide), in_c 100 (by decide) (by decide), bd_t, rng b 100 (by decide) (by decide)]
  rcases ix_or b 100 (by decide) with z | ⟨v, hv, rfl⟩
  · rw [if_neg z, if_neg z, if_pos rfl]
    exact same_no h' hk _
  obtain ⟨g1, g2, g3, g4, g5⟩ := st_rd h hx
  have hp := p_or h
  rw [if_pos (ix_in hv (by decide)), if_pos (ix_in hv (by decide)), if_neg (show ¬ (1 : Int32) = 0 by decide), g1, bd_t, g2, gd_t, g3, bd_t, g4, gd_t, nx_t, nx_t, g5 4 (by decide), of_eq h'.r (s := x) (j := 4) (y := 4) (by omega) (by decide) rfl rfl, bd_t, rr_19 h'.r, bd_t, m7_4, aB_t (7 * x + 4) zR_9 rfl (by omega) (by decide), gd_t, nx_t, nI_clamp (by omega), show gI (sI M2 0 0 0) 9 (7 * x + 4) = nI (kSl D x 4) by simpa using h'.rm.1.2.2.1 x hx 4 (by decide)]
  refine ⟨_, _, _, rfl, rfl, p, d, upD D 3 x 4 v, h'.mk' h.c.I.I h'.r.I rfl rfl (wf_price h.wf (by omega)) (st_up h.st (by decide) (by decide)) ((cm_price h.cm (by omega) ⟨h.wf.n.2.1, h.wf.n.1⟩).i0 (wf_price h.wf (by omega)) (by omega)) (rm_price h'.rm) (fun a z => ⟨fun k => ?_, fun _ => rfl⟩) (fun a k z => ?_) (fun _ => rfl) (im_off ⟨56, by decide, by omega, by omega⟩), Or.inl ?_⟩
  · rw [gI_sI, if_neg (by omega), gI_sI, if_neg (by omega)]
  · rw [gI_sI, if_neg (by omega)]
  · rw [gI_sI, if_pos ⟨rfl, rfl⟩]
theorem eq_turn {M1 M2 : Mem} (h : Rel M1 M2) (a b : Int32) : Same (f_X10_turn M1 0 a b) (f_X11_turn M2 0 a b) := by
  obtain ⟨p, d, D, h, hk⟩ := h
  have h' := h.r0
  have hb := h.ba
  unfold f_X10_turn f_X11_turn
  rw [oC_0, gd_t, h.g1, bd_t, h.oP, gd_t, oR, gd_t, nx_t, gR1 h, bd_t, gR2 h', bd_t]
  rcases ix_or a (kNr D) (by omega) with z | ⟨x, hx, rfl⟩
  · rw [if_neg z, if_pos rfl, if_pos rfl]
    exact same_no h' hk _
  rw [if_pos (ix_in hx (by omega)), if_neg (show ¬ (1 : Int32) = 0 by decide), if_neg (show ¬ (1 : Int32) = 0 by decide), in_c 61 (by decide) (by decide), bd_t, rng b 61 (by decide) (by decide)]
  rcases ix_or b 61 (by decide) with z | ⟨v, hv, rfl⟩
  · rw [if_neg z, if_neg z, if_pos rfl]
    exact same_no h' hk _
  obtain ⟨g1, g2, g3, g4⟩ := rg_rd h hx
  have hp := p_or h
  rw [if_pos (ix_in hv (by decide)), if_pos (ix_in hv (by decide)), if_neg (show ¬ (1 : Int32) = 0 by decide), g1, bd_t, g2, gd_t, g3, bd_t, g4, gd_t, nx_t, nx_t, (h.cm.2.1 x hx).1, rr_18 h'.r, bd_t, m2_0, aB_t (2 * x) zR_8 rfl (by omega) (by decide), gd_t, nx_t, nI_clamp (by omega), show gI (sI M2 0 0 0) 8 (2 * x) = nI (kRg D x 0) by simpa using (h'.rm.1.2.1 x hx).1]
  refine ⟨_, _, _, rfl, rfl, p, d, upD D 1 x 0 v, h'.mk' h.c.I.I h'.r.I rfl rfl (wf_turns h.wf (by omega)) (st_up h.st (by decide) (by decide)) ((cm_turns h.cm (by omega) ⟨h.wf.n.2.1, h.wf.n.1⟩).i0 (wf_turns h.wf (by omega)) (by omega)) (rm_turns h'.rm) (fun a z => ⟨fun k => ?_, fun _ => rfl⟩) (fun a k z => ?_) (fun _ => rfl) (im_off ⟨6, by decide, by omega, by omega⟩), Or.inl ?_⟩
  · rw [gI_sI, if_neg (by omega), gI_sI, if_neg (by omega)]
  · rw [gI_sI, if_neg (by omega)]
  · rw [gI_sI, if_pos ⟨rfl, rfl⟩]
