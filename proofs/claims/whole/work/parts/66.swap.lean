/-! SWAP, HARM, LEAST -/
theorem memfold {σ τ : Type} {F : Nat → Mem → σ → Int32 → τ} {g : Nat → σ → σ} {N : Nat} {R : Mem → σ → τ} {I : Mem → Prop} (step : ∀ n M c k, k < N → I M → ∃ M', I M' ∧ F (n + 1) M c (nI k) = F n M' (g k c) (nI (k + 1))) (stop : ∀ n M c, I M → F (n + 1) M c (nI N) = R M c) : ∀ n M c k, k ≤ N → N < n + k → I M → ∃ M', I M' ∧ F n M c (nI k) = R M' (foS g (N - k) k c) := by
  intro n
  induction n with
  | zero => intro M c k h1 h2; omega
  | succ n ih =>
    intro M c k h1 h2 hI
    by_cases hk : k = N
    · subst hk
      refine ⟨M, hI, ?_⟩
      rw [stop n M c hI, Nat.sub_self]
      rfl
    · obtain ⟨M', a1, a2⟩ := step n M c k (by omega) hI
      obtain ⟨M'', b1, b2⟩ := ih M' (g k c) (k + 1) (by omega) (by omega) a1
      refine ⟨M'', b1, ?_⟩
      obtain ⟨y, hy⟩ : ∃ y, N - k = y + 1 := ⟨N - k - 1, by omega⟩
      rw [a2, b2, hy, show y = N - (k + 1) by omega]
      rfl
/-- two buyers have changed places -/
def swD (D : MK) (a b : Nat) : MK := upD (upD D 4 a 0 (kBy D b 0)) 4 b 0 (kBy D a 0)
def swT (D : MK) (a b : Nat) : Nat := hrS (swD D a b) (kMi D) 8 0 0
def swG (D : MK) (a k : Nat) (c : Int32 × Int32) : Int32 × Int32 := if nI (swT D a k) ≤ c.1 then c else (nI (swT D a k), nI (10 * a + k))
def swO (D : MK) (a : Nat) (c : Int32 × Int32) : Int32 × Int32 := foS (swG D a) (kNb D - (a + 1)) (a + 1) c
theorem wf_sw {D : MK} {a b : Nat} (hW : WFD D) (ha : a < kNb D) (hb : b < kNb D) : WFD (swD D a b) := by
  have h1 := (hW.2.2.2.2.2.2 a ha).1
  have h2 := (hW.2.2.2.2.2.2 b hb).1
  exact wf_place (wf_place hW h2) h1
section SW
variable {p d : Nat} {D : MK} {M1 M2 : Mem}
theorem sIfSw (h : Rel0 p d D M1 M2) (h0 : 0 < kMi D) {a b : Nat} (ha : a < kNb D) (hb : b < kNb D) : ∃ M', f_X10_salesIfSwapped M1 0 (nI a) (nI b) = some (M', nI (swT D a b)) ∧ KeepC p M1 M' ∧ gI M' 0 7 = 0 := by
  have hn := h.ba
  have hd := h.d_or
  have hj := h.dj
  obtain ⟨M, t1, t2, t3⟩ := trialM h
  have hr := h.kc t2
  have ms := mb_sh d h.db
  obtain ⟨a1, a2, a3, a4, a5⟩ := by_rd hr ha
  obtain ⟨b1, b2, b3, b4, b5⟩ := by_rd hr hb
  have dr6 : ∀ i, i < kNb D → aB shC (d + 3) 6 (nI i) = true := fun i hi => aB_t i ms.2.2.2.1 rfl (by omega) (by decide)
  have drg : ∀ i, i < kNb D → gR M (d + 3) (nI i).toNatClampNeg = some (d + 15 + 4 * i) := fun i hi => by
    rw [nI_clamp (by omega)]
    exact mk_b hr.c h.db (by omega)
  have do1 : ∀ i, i < kNb D → oB shC (d + 15 + 4 * i) 1 = true := fun i hi => (ms.2.2.2.2.2.2 i (by omega)).1
  have hC1 := cm_place (x := a) (v := kBy D b 0) t3 ⟨hn.2.2.2.1, hn.2.2.1⟩
  have hC2 : CM (sI (sI M (d + 15 + 4 * a) 0 (nI (kBy D b 0))) (d + 15 + 4 * b) 0 (nI (kBy D a 0))) d (swD D a b) := cm_place (x := b) (v := kBy D a 0) hC1 ⟨hn.2.2.2.1, hn.2.2.1⟩
  have k1 := hr.dI (a := d + 15 + 4 * a) (k := 0) (v := nI (kBy D b 0)) (by unfold inB; omega)
  have hr1 := hr.kc k1
  have k2 := hr1.dI (a := d + 15 + 4 * b) (k := 0) (v := nI (kBy D a 0)) (by unfold inB; omega)
  have hr2 := hr1.kc k2
  obtain ⟨M', u1, u2, u3, u4⟩ := trialH hr2 hC2 (wf_sw h.wf ha hb) h0
  refine ⟨M', ?_, ((t2.tr k1).tr k2).tr u2, u4⟩
  have e0 : gI (sI M (d + 15 + 4 * a) 0 (nI (kBy D b 0))) (p + 15 + 4 * a) 0 = nI (kBy D a 0) := by
    rw [gI_sI, if_neg (by omega), a5 0 (by decide)]
  unfold f_X10_salesIfSwapped
  rw [oC_0, gd_t, t1, bd_t]
  dsimp only
  rw [ms.1, gd_t, mk_8 hr.c h.db, bd_t, dr6 a ha, gd_t, drg a ha, bd_t, hr.g1, bd_t, h.oP, gd_t, b1, bd_t, b2, gd_t, b3, bd_t, b4, gd_t, do1 a ha, gd_t, nx_t, b5 0 (by decide), dr6 b hb, gd_t, gR_sI, drg b hb, bd_t, a2, gd_t, gR_sI, a3, bd_t, a4, gd_t, do1 b hb, gd_t, nx_t, e0, u1, bd_t]
  dsimp only
  rw [oC_84, gd_t, u3.g4]
  rfl
theorem m10 (a b : Nat) : (10 : Int32) * nI a + nI b = nI (10 * a + b) := mk_ix 10 rfl a b
theorem swap1i (h : Rel0 p d D M1 M2) (h0 : 0 < kMi D) {a : Nat} (ha : a < kNb D) (x1 : Int32) (k35 : Mem → Nat → Int32 → Int32 → Int32 → Int32 → Option (Mem × Int32)) : ∀ n M c k, k ≤ kNb D → kNb D < n + k → (KeepC p M1 M ∧ HK M p D) → ∃ M', (KeepC p M1 M' ∧ HK M' p D) ∧ f_X10_swap_53 k35 n M 0 x1 c.1 c.2 (nI a) (nI k) = k35 M' 0 x1 (foS (swG D a) (kNb D - k) k c).1 (foS (swG D a) (kNb D - k) k c).2 (nI (a + 1)) := by
  have hb := h.ba
  refine memfold (F := fun n M c k => f_X10_swap_53 k35 n M 0 x1 c.1 c.2 (nI a) k) (g := swG D a) (R := fun M' c => k35 M' 0 x1 c.1 c.2 (nI (a + 1))) (fun n M c k hk hI => ?_) (fun n M c hI => ?_)
  · have hr := h.kc hI.1
    obtain ⟨M', t1, t2, t3⟩ := sIfSw hr h0 ha hk
    refine ⟨M', ⟨hI.1.tr t2, Or.inl t3⟩, ?_⟩
    show s_X10_swap_53 k35 (f_X10_swap_53 k35 n) M 0 x1 c.1 c.2 (nI a) (nI k) = _
    unfold s_X10_swap_53 swG
    rw [oC_0, gd_t, hr.g1, bd_t, h.oP, gd_t, hr.cm.1.2.2.2.2.2, if_neg (nI_ge hk (by omega)), t1, bd_t]
    dsimp only
    rw [m10, nI_1]
    by_cases q : nI (swT D a k) ≤ c.1
    · rw [if_pos q, if_pos q]
    · rw [if_neg q, if_neg q]
  · have hr := h.kc hI.1
    show s_X10_swap_53 k35 (f_X10_swap_53 k35 n) M 0 x1 c.1 c.2 (nI a) (nI (kNb D)) = _
    unfold s_X10_swap_53
    rw [oC_0, gd_t, hr.g1, bd_t, h.oP, gd_t, hr.cm.1.2.2.2.2.2, if_pos (nI_le (Nat.le_refl _) (by omega)), nI_1]
theorem swap1o (h : Rel0 p d D M1 M2) (h0 : 0 < kMi D) (x1 : Int32) : ∀ n M c k, k ≤ kNb D → kNb D < n + k → (KeepC p M1 M ∧ HK M p D) → ∃ M', (KeepC p M1 M' ∧ HK M' p D) ∧ f_X10_swap_35 n M 0 x1 c.1 c.2 (nI k) = if x1 = 0 then some (M', (foS (swO D) (kNb D - k) k c).1) else some (M', (foS (swO D) (kNb D - k) k c).2) := by
  have hb := h.ba
  refine memfold (F := fun n M c k => f_X10_swap_35 n M 0 x1 c.1 c.2 k) (g := swO D) (R := fun M' c => if x1 = 0 then some (M', c.1) else some (M', c.2)) (fun n M c k hk hI => ?_) (fun n M c hI => ?_)
  · have hr := h.kc hI.1
    obtain ⟨M', t1, t2⟩ := swap1i h h0 hk x1 (f_X10_swap_35 n) FU M c (k + 1) (by omega) (by unfold FU; omega) hI
    refine ⟨M', t1, ?_⟩
    show s_X10_swap_35 (f_X10_swap_35 n) M 0 x1 c.1 c.2 (nI k) = _
    unfold s_X10_swap_35
    rw [oC_0, gd_t, hr.g1, bd_t, h.oP, gd_t, hr.cm.1.2.2.2.2.2, if_neg (nI_ge hk (by omega)), nI_1]
    exact t2
  · have hr := h.kc hI.1
    show s_X10_swap_35 (f_X10_swap_35 n) M 0 x1 c.1 c.2 (nI (kNb D)) = _
    unfold s_X10_swap_35
    rw [oC_0, gd_t, hr.g1, bd_t, h.oP, gd_t, hr.cm.1.2.2.2.2.2, if_pos (nI_le (Nat.le_refl _) (by omega))]
end SW
section SR
variable {D : MK} {M2 : Mem}
theorem salesNow_eq {M : Mem} {D : MK} (hR : RR M) (hW : WFD D) (hm : RM M 0 D) (h0 : 0 < kMi D) : ∃ M', f_X11_salesNow M 0 = some (M', nI (hrS D (kMi D) 8 0 0)) ∧ KeepR M M' ∧ RE M' D ∧ gI M' 0 25 = -1 ∧ gI M' 0 27 = -1 := by
  obtain ⟨M', a1, a2, a3, a4⟩ := plainHour_eq hR hW hm h0
  refine ⟨M', ?_, a2, a3, a4⟩
  unfold f_X11_salesNow
  rw [oR, gd_t, a1, bd_t, a3.2.1.1.1]
theorem change_eq {M : Mem} (hR : RR M) {a b : Nat} (ha : a < 6) (hb : b < 6) : f_X11_change M 0 (nI a) (nI b) = some (sI (sI M 10 (4 * a) (gI M 10 (4 * b))) 10 (4 * b) (gI M 10 (4 * a))) := by
  unfold f_X11_change
  rw [oR, gd_t, rr_20 hR, bd_t, m4_0, m4_0, aB_t (4 * a) zR_10 rfl (by omega) (by decide), gd_t, aB_t (4 * b) zR_10 rfl (by omega) (by decide), gd_t, nx_t, nx_t, nI_clamp (by omega), nI_clamp (by omega)]
theorem KeepR.cc {M M5 M6 : Mem} {a b : Nat} (hab : a ≠ b) (h5 : M5 = sI (sI M 10 (4 * a) (gI M 10 (4 * b))) 10 (4 * b) (gI M 10 (4 * a))) (hk : KeepR M5 M6) : KeepR M (sI (sI M6 10 (4 * a) (gI M6 10 (4 * b))) 10 (4 * b) (gI M6 10 (4 * a))) := by
  subst h5
  have e : ∀ x k, kR x k = true → gI M6 x k = gI (sI (sI M 10 (4 * a) (gI M 10 (4 * b))) 10 (4 * b) (gI M 10 (4 * a))) x k := hk.2.1
  have ea : gI M6 10 (4 * a) = gI M 10 (4 * b) := by rw [e 10 _ rfl, gI_sI, if_neg (by omega), gI_sI, if_pos ⟨rfl, rfl⟩]
  have eb : gI M6 10 (4 * b) = gI M 10 (4 * a) := by rw [e 10 _ rfl, gI_sI, if_pos ⟨rfl, rfl⟩]
  refine ⟨hk.1.I.I, fun x k q => ?_, fun j => hk.2.2 j⟩
  rw [ea, eb, gI_sI]
  by_cases z : x = 10 ∧ k = 4 * b
  · rw [if_pos z, z.1, z.2]
  · rw [if_neg z, gI_sI]
    by_cases y : x = 10 ∧ k = 4 * a
    · rw [if_pos y, y.1, y.2]
    · rw [if_neg y, e x k q, gI_sI, if_neg z, gI_sI, if_neg y]
theorem swap2i (hR : RR M2) (hW : WFD D) (hm : RM M2 0 D) (h0 : 0 < kMi D) {a : Nat} (ha : a < kNb D) (x1 : Int32) (k35 : Mem → Nat → Int32 → Int32 → Int32 → Int32 → Option (Mem × Int32)) : ∀ n M c k, a < k ∧ k ≤ kNb D → kNb D < n + k → KeepR M2 M → ∃ M', KeepR M2 M' ∧ f_X11_swap_52 k35 n M 0 x1 c.1 c.2 (nI a) (nI k) = k35 M' 0 x1 (foS (swG D a) (kNb D - k) k c).1 (foS (swG D a) (kNb D - k) k c).2 (nI (a + 1)) := by
  have hn := hW.n
  intro n
  induction n with
  | zero => intro M c k h1 h2; omega
  | succ n ih =>
    intro M c k h1 h2 hI
    have hk2 : gI M 7 ((4 : Int32).toNatClampNeg) = nI (kNb D) := (hm.keep hI).1.1.2.2.2.2.2
    show ∃ M', _ ∧ s_X11_swap_52 k35 (f_X11_swap_52 k35 n) M 0 x1 c.1 c.2 (nI a) (nI k) = _
    unfold s_X11_swap_52
    rw [oR, gd_t, rr_17 hI.1, bd_t, aB_l (i := 4) zR_7 (by decide), gd_t, hk2]
    by_cases hk : k = kNb D
    · subst hk
      refine ⟨M, hI, ?_⟩
      rw [if_pos (nI_le (Nat.le_refl _) (by omega)), Nat.sub_self, nI_1]
      rfl
    have hmM := hm.keep hI
    have ga : gI M 10 (4 * a) = nI (kBy D a 0) := by simpa using (hmM.1.2.2.2 a ha).1 0 (by decide)
    have gb : gI M 10 (4 * k) = nI (kBy D k 0) := by simpa using (hmM.1.2.2.2 k (by omega)).1 0 (by decide)
    have hR5 : RR (sI (sI M 10 (4 * a) (gI M 10 (4 * k))) 10 (4 * k) (gI M 10 (4 * a))) := hI.1.I.I
    have hm5 : RM (sI (sI M 10 (4 * a) (gI M 10 (4 * k))) 10 (4 * k) (gI M 10 (4 * a))) 0 (swD D a k) := by
      rw [ga, gb]
      exact rm_place (rm_place hmM)
    obtain ⟨M6, e1, e2, e3, -⟩ := salesNow_eq hR5 (wf_sw hW ha (show k < kNb D by omega)) hm5 h0
    have hc := KeepR.cc (show a ≠ k by omega) rfl e2
    obtain ⟨y, hy⟩ : ∃ y, kNb D - k = y + 1 := ⟨kNb D - k - 1, by omega⟩
    have key := fun c' => ih _ c' (k + 1) ⟨by omega, by omega⟩ (by omega) (hI.tr hc)
    rw [if_neg (nI_ge (by omega) (by omega)), change_eq hI.1 (by omega) (by omega), bd_t, e1, bd_t]
    dsimp only
    rw [change_eq e2.1 (by omega) (by omega), bd_t, m10, nI_1, hy]
    show ∃ M', _ ∧ (if c.1 < nI (swT D a k) then _ else _) = k35 M' 0 x1 (foS (swG D a) y (k + 1) (swG D a k c)).1 (foS (swG D a) y (k + 1) (swG D a k c)).2 (nI (a + 1))
    rw [show y = kNb D - (k + 1) by omega]
    unfold swG
    by_cases q : nI (swT D a k) ≤ c.1
    · rw [if_neg (Int32.not_lt.mpr q), if_pos q]
      exact key c
    · rw [if_pos (Int32.not_le.mp q), if_neg q]
      exact key (nI (swT D a k), nI (10 * a + k))
theorem swap2o (hR : RR M2) (hW : WFD D) (hm : RM M2 0 D) (h0 : 0 < kMi D) (x1 : Int32) : ∀ n M c k, k ≤ kNb D → kNb D < n + k → KeepR M2 M → ∃ M', KeepR M2 M' ∧ f_X11_swap_35 n M 0 x1 c.1 c.2 (nI k) = if x1 = 0 then some (M', (foS (swO D) (kNb D - k) k c).1) else some (M', (foS (swO D) (kNb D - k) k c).2) := by
  have hn := hW.n
  refine memfold (F := fun n M c k => f_X11_swap_35 n M 0 x1 c.1 c.2 k) (g := swO D) (R := fun M' c => if x1 = 0 then some (M', c.1) else some (M', c.2)) (fun n M c k hk hI => ?_) (fun n M c hI => ?_)
  · have hk2 : gI M 7 ((4 : Int32).toNatClampNeg) = nI (kNb D) := (hm.keep hI).1.1.2.2.2.2.2
    obtain ⟨M', t1, t2⟩ := swap2i hR hW hm h0 hk x1 (f_X11_swap_35 n) FU M c (k + 1) ⟨by omega, by omega⟩ (by unfold FU; omega) hI
    refine ⟨M', t1, ?_⟩
    show s_X11_swap_35 (f_X11_swap_35 n) M 0 x1 c.1 c.2 (nI k) = _
    unfold s_X11_swap_35
    rw [oR, gd_t, rr_17 hI.1, bd_t, aB_l (i := 4) zR_7 (by decide), gd_t, hk2, if_neg (nI_ge hk (by omega)), nI_1]
    exact t2
  · have hk2 : gI M 7 ((4 : Int32).toNatClampNeg) = nI (kNb D) := (hm.keep hI).1.1.2.2.2.2.2
    show s_X11_swap_35 (f_X11_swap_35 n) M 0 x1 c.1 c.2 (nI (kNb D)) = _
    unfold s_X11_swap_35
    rw [oR, gd_t, rr_17 hI.1, bd_t, aB_l (i := 4) zR_7 (by decide), gd_t, hk2, if_pos (nI_le (Nat.le_refl _) (by omega))]
end SR
theorem eq_swap {M1 M2 : Mem} (h : Rel M1 M2) (b : Int32) : Same (f_X10_swap M1 0 b) (f_X11_swap M2 0 b) := by
  obtain ⟨p, d, D, h, hk⟩ := h
  have h' := h.r0
  have hb := h.ba
  unfold f_X10_swap f_X11_swap
  rw [oC_0, gd_t, h.g1, bd_t, h.oP, gd_t, oR, gd_t, nx_t, gT1 h, bd_t, gT2 h', bd_t]
  rcases Nat.eq_zero_or_pos (kLn D) with hl | hl
  · rw [if_neg (show ¬ 0 < kLn D by omega), if_pos rfl, if_pos rfl]
    exact same_no h' hk _
  rw [if_pos hl, if_neg (show ¬ (1 : Int32) = 0 by decide), if_neg (show ¬ (1 : Int32) = 0 by decide), in_c 2 (by decide) (by decide), bd_t, rng b 2 (by decide) (by decide)]
  rcases ix_or b 2 (by decide) with z | ⟨j, hj, rfl⟩
  · rw [if_neg z, if_neg z, if_pos rfl]
    exact same_no h' hk _
  have h0 := (told_p h hl).1
  obtain ⟨Ma, t1, t2, t3⟩ := told_eq h' hk h0
  obtain ⟨Mb, u1, u2, -⟩ := salesNow_eq h'.r h.wf h'.rm h0
  have ha := h'.kc t2
  obtain ⟨Mc, c1, c2⟩ := swap1o ha h0 (nI j) FU Ma (nI (hrS D (kMi D) 8 0 0), -1) 0 (by omega) (by unfold FU; omega) ⟨KeepC.rf ha.c, Or.inr t3⟩
  obtain ⟨Md, d1, d2⟩ := swap2o h'.r h.wf h'.rm h0 (nI j) FU Mb (nI (hrS D (kMi D) 8 0 0), -1) 0 (by omega) (by unfold FU; omega) u2
  rw [if_pos (ix_in hj (by decide)), if_pos (ix_in hj (by decide)), if_neg (show ¬ (1 : Int32) = 0 by decide), t1, bd_t, u1, bd_t]
  dsimp only
  rw [oC_84, gd_t, (eh_of ha t3 h0).g4]
  have c2' : f_X10_swap_35 FU Ma 0 (nI j) (nI (hrS D (kMi D) 8 0 0)) (-1) 0 = _ := c2
  have d2' : f_X11_swap_35 FU Mb 0 (nI j) (nI (hrS D (kMi D) 8 0 0)) (-1) 0 = _ := d2
  rw [c2', d2']
  by_cases e : nI j = 0
  · rw [if_pos e, if_pos e]
    exact ⟨_, _, _, rfl, rfl, p, d, D, h'.keep (t2.tr c1.1) d1, c1.2⟩
  · rw [if_neg e, if_neg e]
    exact ⟨_, _, _, rfl, rfl, p, d, D, h'.keep (t2.tr c1.1) d1, c1.2⟩
/-! a ring that stands still from a minute on -/
def stD (D : MK) (r m : Nat) : MK := fun a b c e => if a = 2 ∧ b = r ∧ m ≤ c then 1 else D a b c e
theorem stD_ne {D : MK} {r m a b c e : Nat} (h : a ≠ 2) : stD D r m a b c e = D a b c e := if_neg (fun z => h z.1)
def stT (D : MK) (r m : Nat) : Nat := hrS (stD D r m) (kMi D) 8 0 0
theorem m1_bit : ∀ k, k < 60 → ∀ m, m < 64 → bitL ((-1 : Int64) <<< ((nI k).toInt64 &&& 63)) m = decide (k ≤ m) := by decide +kernel
theorem bitL_oo {x y : Int64} {m : Nat} : bitL (x ||| y) m = (bitL x m || bitL y m) := by
  unfold bitL
  rw [Int64.toBitVec_or, BitVec.getLsbD_or]
section ST
variable {D D' : MK}
/-- markets that are alike but for the minutes in which rings are stuck -/
def AlkS (D D' : MK) : Prop := ∀ a b c e, a ≠ 2 → D' a b c e = D a b c e
theorem AlkS.wf (h : AlkS D D') (hW : WFD D) (hs : ∀ r m, r < kNr D → kSt D' r m ≤ 1) : WFD D' := by
  have n0 : ∀ k, D' 0 k 0 0 = D 0 k 0 0 := fun k => h _ _ _ _ (by decide)
  have n1 : ∀ a b, D' 1 a b 0 = D 1 a b 0 := fun a b => h _ _ _ _ (by decide)
  have n3 : ∀ a b, D' 3 a b 0 = D 3 a b 0 := fun a b => h _ _ _ _ (by decide)
  have n4 : ∀ a b, D' 4 a b 0 = D 4 a b 0 := fun a b => h _ _ _ _ (by decide)
  have n5 : ∀ a b c, D' 5 a b c = D 5 a b c := fun a b c => h _ _ _ _ (by decide)
  unfold WFD
  simp only [kP, kMi, kLn, kNr, kNs, kNb, kRg, kSl, kBy, kWt, n0, n1, n3, n4, n5]
  obtain ⟨w1, w2, w3, w4, w5, w6, w7⟩ := hW
  exact ⟨w1, w2, w3, w4, fun y hy => ⟨(w5 y hy).1, (w5 y hy).2.1, fun m => hs y m hy⟩, w6, w7⟩
theorem AlkS.rm0 (h : AlkS D D') {M : Mem} (hm : RM0 M 0 D) : RM0 M 0 D' := by
  have n0 : ∀ k, D' 0 k 0 0 = D 0 k 0 0 := fun k => h _ _ _ _ (by decide)
  have n1 : ∀ a b, D' 1 a b 0 = D 1 a b 0 := fun a b => h _ _ _ _ (by decide)
  have n3 : ∀ a b, D' 3 a b 0 = D 3 a b 0 := fun a b => h _ _ _ _ (by decide)
  have n4 : ∀ a b, D' 4 a b 0 = D 4 a b 0 := fun a b => h _ _ _ _ (by decide)
  have n5 : ∀ a b c, D' 5 a b c = D 5 a b c := fun a b c => h _ _ _ _ (by decide)
  unfold RM0
  simp only [kP, kMi, kLn, kNr, kNs, kNb, kRg, kSl, kBy, kWt, n0, n1, n3, n4, n5]
  exact hm
theorem AlkS.cm (h : AlkS D D') {M M' : Mem} {b : Nat} (hC : CM M b D) (hI : ∀ a, inB b a → ∀ k, gI M' a k = gI M a k) (hn : kNr D ≤ 3 ∧ kNs D ≤ 8 ∧ kNb D ≤ 6) (hL : ∀ r, r < kNr D → ∀ m, m < 64 → bitL (gL M' (b + 4 + r) 2) m = (kSt D' r m == 1)) : CM M' b D' := by
  have n0 : ∀ k, D' 0 k 0 0 = D 0 k 0 0 := fun k => h _ _ _ _ (by decide)
  have n1 : ∀ a b, D' 1 a b 0 = D 1 a b 0 := fun a b => h _ _ _ _ (by decide)
  have n3 : ∀ a b, D' 3 a b 0 = D 3 a b 0 := fun a b => h _ _ _ _ (by decide)
  have n4 : ∀ a b, D' 4 a b 0 = D 4 a b 0 := fun a b => h _ _ _ _ (by decide)
  have n5 : ∀ a b c, D' 5 a b c = D 5 a b c := fun a b c => h _ _ _ _ (by decide)
  obtain ⟨h1, h2, h3, h4⟩ := hC
  unfold CM
  simp only [kP, kMi, kLn, kNr, kNs, kNb, kRg, kSl, kBy, kWt, n0, n1, n3, n4, n5]
  refine ⟨?_, fun r hr => ⟨?_, ?_, hL r hr⟩, fun s hs j hj => ?_, fun i hi => ⟨fun j hj => ?_, fun w hw => ?_⟩⟩
  · simp only [hI b (by unfold inB; omega)]
    exact h1
  · rw [hI _ (by unfold inB; unfold kNr at hn; omega)]
    exact (h2 r hr).1
  · rw [hI _ (by unfold inB; unfold kNr at hn; omega)]
    exact (h2 r hr).2.1
  · rw [hI _ (by unfold inB; unfold kNs at hn; omega)]
    exact h3 s hs j hj
  · rw [hI _ (by unfold inB; unfold kNb at hn; omega)]
    exact (h4 i hi).1 j hj
  · rw [hI _ (by unfold inB; unfold kNb at hn; omega), hI _ (by unfold inB; unfold kNb at hn; omega), hI _ (by unfold inB; unfold kNb at hn; omega)]
    exact (h4 i hi).2 w hw
end ST
theorem st_alk {D : MK} {r m : Nat} : AlkS D (stD D r m) := fun _ _ _ _ h => stD_ne h
theorem st_le {D : MK} (hW : WFD D) {r m : Nat} : ∀ r' m', r' < kNr D → kSt (stD D r m) r' m' ≤ 1 := fun r' m' hr => by
  unfold kSt stD
  split
  · exact Nat.le_refl _
  · exact (hW.2.2.2.2.1 r' hr).2.2 m'
