/-- what the reference's hour keeps besides -/
def IvR (D : MK) (H : HS) : Prop := (∀ i, i < H 8 0 0 → H 9 i 0 ≤ 60) ∧ ∀ s, s < kNs D → H 3 s 0 = 1 → H 2 s 0 = 1 ∨ 0 < H 1 s 0
theorem trades_eq {M : Mem} {D : MK} {H : HS} {s b m : Nat} (h : RC M D) (hr : RH M D H) (hv : IvH D m H) (hq : IvR D H) (hpr : PrI D m H) (hs : s < kNs D) (hb : b < kNb D) (hm : m < kMi D) :
    ∃ M', f_X11_trades M 0 (nI s) (nI b) (nI m) = some M' ∧ OnlyK inW M M' ∧ RH M' D (mtS D m s b H) := by
  have hW := h.2.1
  have hR := h.1
  have hn := hW.n
  have hMi := hW.mi
  have hvs := hv.1 s hs
  have hvb := hv.2.1 b hb
  have hby := hW.2.2.2.2.2.2 b hb
  have hsl := hW.2.2.2.2.2.1 s hs
  have c := hr.2.2.1 b hb
  have cs := hr.2.1 s hs
  unfold f_X11_trades mtS
  rw [oR, gd_t, h.of hs (j := 2) (by decide) (y := 2) rfl, bd_t, wantOfR_eq h hb (by omega), bd_t]
  cases hk : kWo D b (kSl D s 2) with
  | none =>
    show ∃ M', (if (-1 : Int32) = -1 then some M else _) = some M' ∧ _
    rw [if_pos rfl]
    exact ⟨M, rfl, OnlyK.rf, hr⟩
  | some w =>
    have hw := (kWo_lt hk).1
    have hvw := hvb.2 w (by omega)
    have hwt := hby.2.2.2.2.1 w hw
    have m3 : (3 : Int32) * nI b + nI w = nI (3 * b + w) := by rw [show (3 : Int32) = nI 3 from rfl, pk_mul, nI_add]
    have nm : ¬ nI w = (-1 : Int32) := fun z => by
      have := congrArg Int32.toInt z
      rw [nI_toInt (by omega)] at this
      have e3 : (-1 : Int32).toInt = -1 := by decide
      omega
    show ∃ M', (if nI w = (-1 : Int32) then some M else _) = some M' ∧ OnlyK inW M M' ∧ RH M' D (if H 1 s 0 = 0 ∨ H 5 b w = 0 then H else if kWt D b w 2 < H 0 s 0 ∨ H 4 b 0 < H 0 s 0 then drS H s else if wdS D H b (H 0 s 0) (kWt D b w 2) m then slS D H m s b w else H)
    rw [if_neg nm, rr_40 hR, bd_t, m3, aB_t (3 * b + w) zR_26 rfl (by omega) (by decide), gd_t, nx_t, nI_clamp (n := 3 * b + w) (by omega), c.2.2.2.1 w (by omega), if_pos hw]
    by_cases e5 : H 5 b w = 0
    · rw [if_pos (by rw [e5]; rfl), if_pos (Or.inr e5)]
      exact ⟨M, rfl, OnlyK.rf, hr⟩
    rw [if_neg (nI_ne0 (by omega) (by omega)), rr_30 hR, bd_t, aB_t s zR_16 rfl (by omega) (by decide), gd_t, nI_clamp (n := s) (by omega), cs.1]
    by_cases e1 : H 1 s 0 = 0
    · rw [if_pos (by rw [e1]; rfl), if_pos (Or.inl e1)]
      exact ⟨M, rfl, OnlyK.rf, hr⟩
    rw [if_neg (nI_ne0 (by omega) (by omega)), if_neg (show ¬ (H 1 s 0 = 0 ∨ H 5 b w = 0) by omega), asked_eq h cs.2.1 (hpr s hs) hs hm, bd_t, rr_36 hR, bd_t, aB_t s zR_22 rfl (by omega) (by decide), gd_t, cs.2.2.2.2.2.2]
    have hno : kWt D b w 2 < H 0 s 0 ∨ H 4 b 0 < H 0 s 0 → ∃ M', f_X11_trades_97 M 0 (nI s) (nI b) (nI m) (nI w) (nI (H 0 s 0)) (nI s) 22 = some M' ∧ OnlyK inW M M' ∧ RH M' D (drS H s) := fun z => ⟨_, tr102_no h hr hv hs hb hm hw z, OnlyK.rf.I (by unfold inW; omega), hr.dr⟩
    have hok := fun (q1 : H 0 s 0 ≤ kWt D b w 2) (q2 : H 0 s 0 ≤ H 4 b 0) => tr102_ok (s := s) (b := b) (m := m) (w := w) h hr hv hq.1 hs hb hm hw (by omega) (by omega) q1 q2
    by_cases e3 : H 3 s 0 = 0
    · rw [if_pos (show nI (H 3 s 0) = 0 by rw [e3]; rfl), rr_21 hR, bd_t, (trLim h hb hw).1, gd_t, nx_t, (trLim h hb hw).2]
      by_cases q1 : kWt D b w 2 < H 0 s 0
      · rw [if_pos (nI_lt q1 (by omega)), if_pos (Or.inl q1)]
        exact hno (Or.inl q1)
      · rw [if_neg (nI_nlt (by omega) (by omega)), rr_37 hR, bd_t, aB_t b zR_23 rfl (by omega) (by decide), gd_t, nI_clamp (n := b) (by omega), c.1]
        by_cases q2 : H 4 b 0 < H 0 s 0
        · rw [if_neg (nI_ge q2 (by omega)), if_pos (Or.inr q2)]
          exact hno (Or.inr q2)
        · rw [if_pos (nI_le (by omega) (by omega)), if_neg (by omega)]
          have := hok (by omega) (by omega)
          rw [e3] at this
          exact this
    · rw [if_neg (nI_ne0 (by omega) (by omega))]
      by_cases q : kWt D b w 2 < H 0 s 0 ∨ H 4 b 0 < H 0 s 0
      · rw [if_pos q]
        exact hno q
      · rw [if_neg q]
        have := hok (by omega) (by omega)
        rw [show H 3 s 0 = 1 by omega] at this
        exact this
theorem IvR.dr {D : MK} {H : HS} {s : Nat} (h : IvR D H) (h0 : 0 < H 1 s 0) : IvR D (drS H s) := by
  refine ⟨fun i hi => ?_, fun i hi => ?_⟩
  · have := h.1 i (by simpa [drS] using hi)
    simpa [drS] using this
  · by_cases e : i = s
    · subst e
      intro _
      right
      simpa [drS] using h0
    · have := h.2 i hi
      simpa [drS, e] using this
theorem IvR.sl {D : MK} {H : HS} {m s b w : Nat} (h : IvR D H) (hm : m ≤ 60) : IvR D (slS D H m s b w) := by
  refine ⟨fun i hi => ?_, fun i hi => ?_⟩
  · have e8 : slS D H m s b w 8 0 0 = H 8 0 0 + 1 := by simp [slS]
    rw [e8] at hi
    by_cases e : i = H 8 0 0
    · subst e
      simp [slS]
      exact hm
    · have := h.1 i (by omega)
      simpa [slS, e] using this
  · by_cases e : i = s
    · subst e
      intro _
      left
      simp [slS]
    · have := h.2 i hi
      simpa [slS, e] using this
theorem IvR.mt {D : MK} {m s b : Nat} {H : HS} (h : IvR D H) (hm : m ≤ 60) : IvR D (mtS D m s b H) := by
  unfold mtS
  split
  · exact h
  · split
    · exact h
    · split
      · exact h.dr (by omega)
      · split
        · exact h.sl hm
        · exact h
theorem mt_cases {D : MK} {m s b : Nat} {H : HS} : mtS D m s b H = H ∨ mtS D m s b H = drS H s ∨ ∃ w, mtS D m s b H = slS D H m s b w := by
  unfold mtS
  split
  · exact Or.inl rfl
  · rename_i w _
    split
    · exact Or.inl rfl
    · split
      · exact Or.inr (Or.inl rfl)
      · split
        · exact Or.inr (Or.inr ⟨w, rfl⟩)
        · exact Or.inl rfl
theorem PrI.mt {D : MK} {m s b : Nat} {H : HS} (h : PrI D m H) : PrI D m (mtS D m s b H) := by
  have key : ∀ i, mtS D m s b H 0 i 0 = H 0 i 0 := fun i => by
    rcases mt_cases (D := D) (m := m) (s := s) (b := b) (H := H) with e | e | ⟨w, e⟩ <;> rw [e]
    · simp [drS]
    · simp [slS]
  intro i hi h5
  rw [key]
  exact h i hi h5
