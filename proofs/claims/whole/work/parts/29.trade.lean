/-! TRADE IN A MINUTE, class side -/
theorem CH.dr {M : Mem} {D : MK} {H : HS} {s : Nat} (hc : CH M D H) : CH (sI M 132 s 1) D (drS H s) := by
  obtain ⟨h1, h2, h3, h4⟩ := hc
  refine ⟨?_, fun x hx => ⟨?_, ?_, ?_, ?_⟩, fun x hx => ⟨?_, fun v hv => ?_, ?_, ?_⟩, fun j hj => ⟨?_, ?_, ?_, ?_⟩⟩
  · rw [gI_sI, if_neg (by omega)]; exact h1
  · rw [gI_sI, if_neg (by omega)]; exact (h2 x hx).1
  · rw [gI_sI, if_neg (by omega)]; exact (h2 x hx).2.1
  · rw [gI_sI, if_neg (by omega)]; exact (h2 x hx).2.2.1
  · by_cases e : x = s
    · subst e
      rw [gI_sI, if_pos ⟨rfl, rfl⟩]
      simp [drS]
      rfl
    · rw [gI_sI, if_neg (by omega), (h2 x hx).2.2.2]
      simp [drS, e]
  · rw [gI_sI, if_neg (by omega)]; exact (h3 x hx).1
  · rw [gI_sI, if_neg (by omega)]; exact (h3 x hx).2.1 v hv
  · rw [gI_sI, if_neg (by omega)]; exact (h3 x hx).2.2.1
  · rw [gI_sI, if_neg (by omega)]; exact (h3 x hx).2.2.2
  · rw [gI_sI, if_neg (by omega)]; exact (h4 j hj).1
  · rw [gI_sI, if_neg (by omega)]; exact (h4 j hj).2.1
  · rw [gI_sI, if_neg (by omega)]; exact (h4 j hj).2.2.1
  · rw [gI_sI, if_neg (by omega)]; exact (h4 j hj).2.2.2
theorem meet90_eq {M : Mem} {s : Nat} (hCR : CR M) (hs : s < 8) : f_X3_meet_90 M 84 (nI s) = some (sI M 132 s 1) := by
  unfold f_X3_meet_90
  rw [oC_84, gd_t, cr_84_14 hCR, bd_t, aB_t s zC_132 rfl (by omega) (by decide), gd_t, nx_t, vpn1, nI_clamp (by omega)]
theorem meet_eq {M : Mem} {b s i m : Nat} {D : MK} {H : HS} (hH : HC M b D) (hc : CH M D H) (hv : IvH D m H) (hs : s < kNs D) (hi : i < kNb D) (hm : m < kMi D) : ∃ M', f_X3_meet M 84 (nI s) (nI i) (nI m) = some M' ∧ Only inM M M' ∧ CH M' D (mtS D m s i H) := by
  have hb := hH.1
  have hCR := hH.2.1
  have h3 := hH.2.2.1
  have hW := hH.2.2.2.1
  have hC := hH.2.2.2.2.1
  have hn := hW.n
  have hms := mb_sh b hb
  have hmb := hms.2.2.2.2.2.2 i (by omega)
  have hby := hW.2.2.2.2.2.2 i hi
  have hsl := hW.2.2.2.2.2.1 s hs
  have hvs := hv.1 s hs
  have hvb := hv.2.1 i hi
  have c1 := hc.2.1 s hs
  have c2 := hc.2.2.1 i hi
  have hs8 : s < 8 := by omega
  have hi6 : i < 6 := by omega
  unfold f_X3_meet
  rw [oC_84, gd_t, h3, bd_t, hms.1, gd_t, mk_8 hCR hb, bd_t, aB_t i hms.2.2.2.1 rfl (by omega) (by decide), gd_t, nI_clamp (n := i) (by omega), mk_b hCR hb (by omega), bd_t, mk_7 hCR hb, bd_t, aB_t s hms.2.2.1 rfl (by omega) (by decide), gd_t, nI_clamp (n := s) (by omega), mk_s hCR hb (by omega), bd_t, hms.2.2.2.2.2.1 s (by omega), gd_t, hmb.1, gd_t, hC.2.2.1 s hs 2 (by decide), wantOf_eq hb hCR hW hC hi (by omega), bd_t, cr_84_12 hCR, bd_t, aB_t s zC_130 rfl (by omega) (by decide), gd_t, c1.2.1]
  unfold mtS
  by_cases e0 : H 1 s 0 = 0
  · rw [if_pos (by rw [e0]; rfl)]
    refine ⟨M, rfl, Only.rf, ?_⟩
    cases hk : kWo D i (kSl D s 2) with
    | none => exact hc
    | some w =>
      show CH M D (if H 1 s 0 = 0 ∨ H 5 i w = 0 then H else _)
      rw [if_pos (Or.inl e0)]
      exact hc
  rw [if_neg (nI_ne0 (by omega) (by omega))]
  cases hk : kWo D i (kSl D s 2) with
  | none =>
    show ∃ M', (if (-1 : Int32) = -1 then some M else _) = some M' ∧ _
    rw [if_pos rfl]
    exact ⟨M, rfl, Only.rf, hc⟩
  | some w =>
    have hw := (kWo_lt hk).1
    have hw3 : w < 3 := by omega
    have hwt := hby.2.2.2.2.1 w hw
    have hl9 := hvb.2 w hw3
    show ∃ M', (if nI w = -1 then some M else _) = some M' ∧ _ ∧ CH M' D (if H 1 s 0 = 0 ∨ H 5 i w = 0 then H else if kWt D i w 2 < H 0 s 0 ∨ H 4 i 0 < H 0 s 0 then drS H s else if wdS D H i (H 0 s 0) (kWt D i w 2) m then slS D H m s i w else H)
    have hw1 : ¬ nI w = -1 := fun z => by
      have := congrArg Int32.toInt z
      rw [nI_toInt (by omega)] at this
      have e3 : (-1 : Int32).toInt = -1 := by decide
      omega
    rw [if_neg hw1, cr_84_16 hCR, bd_t, aB_t i zC_134 rfl (by omega) (by decide), gd_t, cr_l hCR hi6, bd_t, aB_t w (zC_l i hi6).1 rfl (by omega) (by decide), gd_t, nI_clamp (n := w) (by omega), c2.2.1 w hw]
    by_cases e1 : H 5 i w = 0
    · rw [if_pos (by rw [e1]; rfl), if_pos (Or.inr e1)]
      exact ⟨M, rfl, Only.rf, hc⟩
    rw [if_neg (nI_ne0 (by omega) (by omega)), if_neg (show ¬ (H 1 s 0 = 0 ∨ H 5 i w = 0) by omega), cr_84_11 hCR, bd_t, aB_t s zC_129 rfl (by omega) (by decide), gd_t, mk_b6 hCR hb hi6, bd_t, aB_t w hmb.2.2.2 rfl (by omega) (by decide), gd_t, c1.1, ((hC.2.2.2 i hi).2 w hw).2.2]
    by_cases e2 : kWt D i w 2 < H 0 s 0
    · rw [if_pos (nI_lt e2 (by omega)), if_pos (Or.inl e2), meet90_eq hCR hs8]
      exact ⟨_, rfl, Only.rf.I (by unfold inM; omega), hc.dr⟩
    rw [if_neg (nI_nlt (by omega) (by omega)), cr_84_15 hCR, bd_t, aB_t i zC_133 rfl (by omega) (by decide), gd_t, c2.1]
    by_cases e3 : H 4 i 0 < H 0 s 0
    · rw [if_neg (nI_ge e3 (by omega)), if_pos (Or.inr e3), meet90_eq hCR hs8]
      exact ⟨_, rfl, Only.rf.I (by unfold inM; omega), hc.dr⟩
    rw [if_pos (nI_le (by omega) (by omega)), if_neg (show ¬ (kWt D i w 2 < H 0 s 0 ∨ H 4 i 0 < H 0 s 0) by omega), wouldBuy_eq hH hc hv hi hm (by omega) hwt.2.2.2, bd_t]
    by_cases e4 : wdS D H i (H 0 s 0) (kWt D i w 2) m = true
    · rw [if_pos e4, if_pos e4, if_neg (by decide), nx_t, show nI (H 5 i w) - 1 = nI (H 5 i w - 1) by rw [show (1 : Int32) = nI 1 from rfl, pk_sub (by omega)]]
      have hO : Only inM M (sI M (135 + i) w (nI (H 5 i w - 1))) := Only.rf.I (by unfold inM; omega)
      have hc' : CH (sI M (135 + i) w (nI (H 5 i w - 1))) D (slL H i w) := by
        obtain ⟨k1, k2, k3, k4⟩ := hc
        refine ⟨?_, fun x hx => ?_, fun x hx => ?_, fun j hj => ?_⟩
        · rw [gI_sI, if_neg (by omega)]
          simpa [slL] using k1
        · rw [gI_sI, if_neg (by omega), gI_sI, if_neg (by omega), gI_sI, if_neg (by omega), gI_sI, if_neg (by omega)]
          simpa [slL] using k2 x hx
        · have := k3 x hx
          refine ⟨?_, fun v hv => ?_, ?_, ?_⟩
          · rw [gI_sI, if_neg (by omega)]
            simpa [slL] using this.1
          · rw [gI_sI]
            by_cases e : x = i ∧ v = w
            · obtain ⟨rfl, rfl⟩ := e
              rw [if_pos ⟨rfl, rfl⟩]
              simp [slL]
            · rw [if_neg (by omega), this.2.1 v hv]
              simp [slL, e]
          · rw [gI_sI, if_neg (by omega)]
            simpa [slL] using this.2.2.1
          · rw [gI_sI, if_neg (by omega)]
            simpa [slL] using this.2.2.2
        · rw [gI_sI, if_neg (by omega), gI_sI, if_neg (by omega), gI_sI, if_neg (by omega), gI_sI, if_neg (by omega)]
          simpa [slL] using k4 j (by simpa [slL] using hj)
      obtain ⟨M', r1, r2, r3⟩ := sell_eq (hH.only (hO.mono (fun _ => inM_H))) hc' hv hs hi hm hw (by omega) (by omega)
      rw [r1, bd_t]
      exact ⟨M', rfl, hO.tr r2, r3⟩
    · rw [if_neg e4, if_neg e4, if_pos rfl]
      exact ⟨M, rfl, Only.rf, hc⟩
