/-! AN HOUR, the reference: the whole -/
theorem RM0.only {M M' : Mem} {D : MK} (h : RM0 M 0 D) (e : ∀ a k, 6 ≤ a → a ≤ 13 → gI M' a k = gI M a k) : RM0 M' 0 D := by
  refine ⟨?_, fun r hr => ?_, fun s hs j hj => ?_, fun i hi => ⟨fun j hj => ?_, fun w hw j hj => ?_⟩⟩
  · simp only [e 7 _ (by decide) (by decide), e 6 _ (by decide) (by decide)]
    exact h.1
  · simp only [e 8 _ (by decide) (by decide)]
    exact h.2.1 r hr
  · rw [e 9 _ (by decide) (by decide)]
    exact h.2.2.1 s hs j hj
  · rw [e 10 _ (by decide) (by decide)]
    exact (h.2.2.2 i hi).1 j hj
  · rw [e 11 _ (by decide) (by decide)]
    exact (h.2.2.2 i hi).2 w hw j hj
theorem KeepR.X {M M' : Mem} (hR : RR M) (h : OnlyX inT M M') : KeepR M M' := by
  refine ⟨h.RR hR, fun a k q => h.2.2 a (fun z => ?_) k, fun k => h.2.1 3 k (by omega)⟩
  unfold inT at z
  rcases z with rfl | rfl <;> cases q
theorem KeepR.K {M M' : Mem} (hR : RR M) (h : OnlyK inQ M M') : KeepR M M' := by
  refine ⟨h.RR hR, fun a k q => h.2 a k (fun z => ?_), fun k => ?_⟩
  · unfold inQ at z
    simp [kR] at q
    omega
  · show M'.2.1 3 k = M.2.1 3 k
    rw [h.1]
theorem laid_eq {M : Mem} {D : MK} {X : Nat → Int64} (hW : WFD D) (hT : TuR M D X) (hm : RM0 M 0 D) (hx : ¬ gI M 0 27 = -1 → gL M 0 28 = X 0) : ∃ M', f_X11_laysTurns M 0 = some M' ∧ OnlyX inT M M' ∧ RC M' D := by
  obtain ⟨M', a1, a2, a3⟩ := lays_eq hT hx
  refine ⟨M', a1, a2, a2.RR hT.1, hW, hm.only (fun a k h1 h2 => a2.2.2 a (by unfold inT; omega) k), a3⟩
/-- the hour's end in the reference's memory -/
def RE (M : Mem) (D : MK) : Prop := RC M D ∧ RH M D (hrS D (kMi D)) ∧ RT M D (hrS D (kMi D)) (kMi D)
theorem rhour_eq {M : Mem} {D : MK} {X : Nat → Int64} (hW : WFD D) (hT : TuR M D X) (hm : RM0 M 0 D) (hx : ¬ gI M 0 27 = -1 → gL M 0 28 = X 0) (h0 : 0 < kMi D) : ∃ M', f_X11_hour M 0 = some M' ∧ KeepR M M' ∧ RE M' D ∧ ∀ k, k ≠ 46 → k ≠ 47 → gI M' 0 k = gI M 0 k := by
  obtain ⟨M1, a1, a2, a3⟩ := laid_eq hW hT hm hx
  obtain ⟨M2, H0, b1, b2, b3, b4, -⟩ := rbegin_eq a3
  have h2 := a3.onlyK b2
  obtain ⟨M3, c1, c2, c3, c4⟩ := rhours_loop FU 0 M2 H0 (by omega) (by have := hW.mi; unfold FU; omega) h2 b3 b4 (fun z => by omega) ⟨fun s _ j hj => by omega, fun s _ j hj => by omega⟩
  have hR1 := a3.1
  refine ⟨M3, ?_, ((KeepR.X hT.1 a2).tr (KeepR.K hR1 b2)).tr (KeepR.K h2.1 c2), ⟨h2.onlyK c2, c3, c4⟩, fun k q1 q2 => ?_⟩
  · unfold f_X11_hour
    rw [oR, gd_t, a1, bd_t, b1, bd_t]
    exact c1
  · rw [c2.2 0 k (by unfold inQ; omega), b2.2 0 k (by unfold inQ; omega), a2.2.2 0 (by unfold inT; omega)]
/-- the turning of D', whose rings are stuck as D's are told to be, and by a still ring, and by draws -/
theorem tuR_of {M : Mem} {D D' : MK} {X : Nat → Int64} (hR : RR M) (hW : WFD D) (hm : RM M 0 D) (hX : ∀ k, X (k + 1) = stepX (X k)) (e1 : kMi D' = kMi D) (e2 : kNr D' = kNr D) (e3 : ∀ r, kRg D' r 0 = kRg D r 0) (hs : ∀ r m, r < kNr D → m < kMi D → (kSt D' r m = 1 ↔ (kSt D r m = 1 ∨ (nI r = gI M 0 25 ∧ ¬ nI m < gI M 0 26)) ∨ (¬ gI M 0 27 = -1 ∧ drawX (X (m * kNr D + r + 1)) (gI M 0 27) = true))) : TuR M D' X := by
  obtain ⟨⟨h1, h2, h3, h4⟩, n, sr, sf, st, g1, g2, g3, g4⟩ := hm
  refine ⟨hR, ⟨?_, ?_⟩, by rw [e1]; exact hW.mi, by rw [e2]; exact hW.2.1, fun r hr => ?_, hX, n, sr, sf, st, ⟨g1, by simpa using g2, fun i hi => ?_⟩, fun r m hr hm => ?_⟩
  · rw [e1]; simpa using h1.2.1
  · rw [e2]; simpa using h1.2.2.2.1
  · rw [e2] at hr
    rw [e3]
    exact ⟨(hW.2.2.2.2.1 r hr).1, by simpa using (h2 r hr).1⟩
  · simpa using g3 i hi
  · rw [e2] at hr
    rw [e1] at hm
    rw [e2, hs r m hr hm, g4 r m hr hm]
theorem ne_m1 {r : Nat} (hr : r < 2 ^ 31) : ¬ nI r = (-1 : Int32) := fun z => by
  have := congrArg Int32.toInt z
  rw [nI_toInt hr] at this
  have e3 : (-1 : Int32).toInt = -1 := by decide
  omega
theorem tuR_plain {M : Mem} {D : MK} (hR : RR M) (hW : WFD D) (hm : RM M 0 D) (h25 : gI M 0 25 = -1) (h27 : gI M 0 27 = -1) : TuR M D (seqX 0) := by
  refine tuR_of hR hW hm (fun _ => rfl) rfl rfl (fun _ => rfl) (fun r m hr _ => ?_)
  have := hW.2.1
  rw [h25, h27]
  constructor
  · exact fun h => Or.inl (Or.inl h)
  · rintro ((h | h) | h)
    · exact h
    · exact absurd h.1 (ne_m1 (by omega))
    · exact absurd rfl h.1
def plM (M : Mem) : Mem := sI (sI M 0 25 (-1)) 0 27 (-1)
theorem plainly_eq (M : Mem) : f_X11_plainly M 0 = some (plM M) := by
  unfold f_X11_plainly
  rw [oR, gd_t, nx_t, nx_t]
  rfl
theorem plM_k {M : Mem} (hR : RR M) : KeepR M (plM M) := (KeepR.rf hR |>.I (a := 0) (k := 25) rfl).I (a := 0) (k := 27) rfl
theorem plM_t {M : Mem} {D : MK} (hR : RR M) (hW : WFD D) (hm : RM M 0 D) : TuR (plM M) D (seqX 0) :=
  tuR_plain (plM_k hR).1 hW (hm.keep (plM_k hR)) (by unfold plM; rw [gI_sI, if_neg (by omega), gI_sI, if_pos ⟨rfl, rfl⟩]) (by unfold plM; rw [gI_sI, if_pos ⟨rfl, rfl⟩])
theorem plM_27 (M : Mem) : gI (plM M) 0 27 = -1 := by unfold plM; rw [gI_sI, if_pos ⟨rfl, rfl⟩]
theorem asTold_eq {M : Mem} {D : MK} (hR : RR M) (hW : WFD D) (hm : RM M 0 D) : ∃ M', f_X11_asTold M 0 = some M' ∧ KeepR M M' ∧ RC M' D := by
  have hm' := hm.keep (plM_k hR)
  obtain ⟨M', a1, a2, a3⟩ := laid_eq hW (plM_t hR hW hm) hm'.1 (fun z => absurd (plM_27 M) z)
  refine ⟨M', ?_, (plM_k hR).tr (KeepR.X (plM_k hR).1 a2), a3⟩
  unfold f_X11_asTold
  rw [oR, gd_t, plainly_eq, bd_t, a1, bd_t]
theorem plainHour_eq {M : Mem} {D : MK} (hR : RR M) (hW : WFD D) (hm : RM M 0 D) (h0 : 0 < kMi D) : ∃ M', f_X11_plainHour M 0 = some M' ∧ KeepR M M' ∧ RE M' D ∧ gI M' 0 25 = -1 ∧ gI M' 0 27 = -1 := by
  have hm' := hm.keep (plM_k hR)
  obtain ⟨M', a1, a2, a3, a4⟩ := rhour_eq hW (plM_t hR hW hm) hm'.1 (fun z => absurd (plM_27 M) z) h0
  refine ⟨M', ?_, (plM_k hR).tr a2, a3, ?_, ?_⟩
  · unfold f_X11_plainHour
    rw [oR, gd_t, plainly_eq, bd_t, a1, bd_t]
  · rw [a4 25 (by decide) (by decide)]
    unfold plM
    rw [gI_sI, if_neg (by omega), gI_sI, if_pos ⟨rfl, rfl⟩]
  · rw [a4 27 (by decide) (by decide), plM_27]
/-! THE HOUR THAT IS TOLD, class side -/
theorem KeepC.H {p d : Nat} {M M' : Mem} (h : KeepH M M') (hC : CR M') (hp : (p = 3 ∧ d = 42) ∨ (p = 42 ∧ d = 3)) : KeepC p M M' := by
  have e : ∀ a, ¬ (84 ≤ a ∧ a ≤ 141) → ∀ k, gI M' a k = gI M a k := h.1
  refine ⟨hC, h.2.2 0 1 (by omega), h.2.2 0 2 (by omega), fun k => e 1 (by omega) k, fun k => e 2 (by omega) k, fun a h1 h2 => ⟨fun k => e a (by omega) k, fun k => h.2.1 a k⟩, fun k => e 82 (by omega) k, fun a h1 h2 => ⟨fun k => e a (by omega) k, fun k => h.2.1 a k⟩⟩
theorem KeepC.rf {p : Nat} {M : Mem} (hC : CR M) : KeepC p M M := ⟨hC, rfl, rfl, fun _ => rfl, fun _ => rfl, fun _ _ _ => ⟨fun _ => rfl, fun _ => rfl⟩, fun _ => rfl, fun _ _ _ => ⟨fun _ => rfl, fun _ => rfl⟩⟩
theorem KeepC.tr {p : Nat} {M M' M'' : Mem} (h : KeepC p M M') (h' : KeepC p M' M'') : KeepC p M M'' := by
  obtain ⟨a1, a2, a3, a4, a5, a6, a7, a8⟩ := h
  obtain ⟨b1, b2, b3, b4, b5, b6, b7, b8⟩ := h'
  exact ⟨b1, b2.trans a2, b3.trans a3, fun k => (b4 k).trans (a4 k), fun k => (b5 k).trans (a5 k), fun a q1 q2 => ⟨fun k => ((b6 a q1 q2).1 k).trans ((a6 a q1 q2).1 k), fun k => ((b6 a q1 q2).2 k).trans ((a6 a q1 q2).2 k)⟩, fun k => (b7 k).trans (a7 k), fun a q1 q2 => ⟨fun k => ((b8 a q1 q2).1 k).trans ((a8 a q1 q2).1 k), fun k => ((b8 a q1 q2).2 k).trans ((a8 a q1 q2).2 k)⟩⟩
theorem KeepC.I {p : Nat} {M M' : Mem} {a k : Nat} {v : Int32} (h : KeepC p M M') (ha : a = 0 ∨ (83 ≤ a ∧ a < 149)) (hp : p = 3 ∨ p = 42) : KeepC p M (sI M' a k v) := by
  obtain ⟨b1, b2, b3, b4, b5, b6, b7, b8⟩ := h
  have e : ∀ b j, b ≠ a → gI (sI M' a k v) b j = gI M' b j := fun b j q => by rw [gI_sI, if_neg (fun z => q z.1)]
  refine ⟨b1.I, b2, b3, fun j => ?_, fun j => ?_, fun b q1 q2 => ⟨fun j => ?_, fun j => (b6 b q1 q2).2 j⟩, fun j => ?_, fun b q1 q2 => ⟨fun j => ?_, fun j => (b8 b q1 q2).2 j⟩⟩
  · rw [e _ _ (by omega)]; exact b4 j
  · rw [e _ _ (by omega)]; exact b5 j
  · rw [e _ _ (by omega)]; exact (b6 b q1 q2).1 j
  · rw [e _ _ (by omega)]; exact b7 j
  · rw [e _ _ (by omega)]; exact (b8 b q1 q2).1 j
/-- the hour is kept, if played says so -/
def HK (M : Mem) (p : Nat) (D : MK) : Prop := gI M 0 7 = 0 ∨ HourC M p D
theorem HourC.I0 {M : Mem} {b k : Nat} {v : Int32} {D : MK} (h : HourC M b D) : HourC (sI M 0 k v) b D := by
  have e : ∀ a j, a ≠ 0 → gI (sI M 0 k v) a j = gI M a j := fun a j q => by rw [gI_sI, if_neg (fun z => q z.1)]
  obtain ⟨h1, h2, h3, ⟨c1, c2, c3, c4⟩, h5, h6, h7⟩ := h
  refine ⟨h1, fun r hr m hm => ?_, fun s hs m hm => ?_, ⟨?_, fun s hs => ?_, fun b hb => ?_, fun i hi => ?_⟩, fun s hs m hm => ?_, fun s hs m hm => ?_, fun s hs m hm => ?_⟩
  · rw [e _ _ (by omega)]; exact h2 r hr m hm
  · rw [e _ _ (by omega)]; exact h3 s hs m hm
  · rw [e _ _ (by omega)]; exact c1
  · simp only [e 129 _ (by decide), e 130 _ (by decide), e 131 _ (by decide), e 132 _ (by decide)]; exact c2 s hs
  · simp only [e 133 _ (by decide), e (135 + b) _ (by omega), e 141 _ (by decide), e 128 _ (by decide)]; exact c3 b hb
  · simp only [e 124 _ (by decide), e 125 _ (by decide), e 126 _ (by decide), e 127 _ (by decide)]; exact c4 i hi
  · rw [e _ _ (by omega)]; exact h5 s hs m hm
  · rw [e _ _ (by omega)]; exact h6 s hs m hm
  · rw [e _ _ (by omega)]; exact h7 s hs m hm
theorem told_eq {p d : Nat} {D : MK} {M1 M2 : Mem} (h : Rel0 p d D M1 M2) (hk : HK M1 p D) (h0 : 0 < kMi D) : ∃ M1', f_X10_toldHour M1 0 = some (M1', 84) ∧ KeepC p M1 M1' ∧ HourC M1' p D := by
  obtain ⟨a1, a2, a3, a4, a5, a6, a7, a8, -⟩ := h
  have hp := (p_mb a5).1
  unfold f_X10_toldHour
  by_cases h7 : gI M1 0 7 = 0
  · obtain ⟨M1', b1, b2, b3, b4⟩ := play_eq hp a1 a6 a8 h0
    have hC2 : CR (sI M1' 0 7 1) := b2.I
    rw [oC_0, gd_t, if_pos h7, cr_0_6 a1, bd_t, a3, bd_t, oC_84, gd_t, b1, bd_t, nx_t, cr_0_6 hC2, bd_t]
    exact ⟨_, rfl, (KeepC.H b3 b2 a5).I (Or.inl rfl) (by omega), b4.I0⟩
  · rw [oC_0, gd_t, if_neg h7, cr_0_6 a1, bd_t]
    refine ⟨_, rfl, KeepC.rf a1, ?_⟩
    rcases hk with z | z
    · exact absurd z h7
    · exact z
/-- the relation that stands between calls -/
def Rel (M1 M2 : Mem) : Prop := ∃ p d D, Rel0 p d D M1 M2 ∧ HK M1 p D
theorem rel_of {p d : Nat} {D : MK} {M1 M2 M1' M2' : Mem} (h : Rel0 p d D M1 M2) (hk : HK M1' p D) (h1 : KeepC p M1 M1') (h2 : KeepR M2 M2') : Rel M1' M2' := ⟨p, d, D, h.keep h1 h2, hk⟩
