/-! WHEN A STALL MEETS A BUYER, the reference -/
theorem trLim {M : Mem} {D : MK} {b w : Nat} (h : RC M D) (hb : b < kNb D) (hw : w < kBy D b 3) : aB shR 11 0 (9 * nI b + 3 * nI w + 2) = true ∧ gI M 11 (9 * nI b + 3 * nI w + 2 : Int32).toNatClampNeg = nI (kWt D b w 2) := by
  have hn := h.2.1.n
  have hby := h.2.1.2.2.2.2.2.2 b hb
  have e : (9 : Int32) * nI b + 3 * nI w + 2 = nI (9 * b + 3 * w + 2) := by rw [show (9 : Int32) = nI 9 from rfl, show (3 : Int32) = nI 3 from rfl, pk_mul, pk_mul, nI_add, show (2 : Int32) = nI 2 from rfl, nI_add]
  rw [e]
  exact ⟨aB_t (9 * b + 3 * w + 2) zR_11 rfl (by omega) (by decide), by rw [nI_clamp (by omega)]; exact h.wt hb hw (by decide)⟩
theorem tr102_no {M : Mem} {D : MK} {H : HS} {s b m w : Nat} (h : RC M D) (hr : RH M D H) (hv : IvH D m H) (hs : s < kNs D) (hb : b < kNb D) (hm : m < kMi D) (hw : w < kBy D b 3) (hno : kWt D b w 2 < H 0 s 0 ∨ H 4 b 0 < H 0 s 0) :
    f_X11_trades_102 M 0 (nI s) (nI b) (nI m) (nI w) (nI (H 0 s 0)) 1 (nI s) 22 = some (sI M 22 s 1) := by
  have hn := h.2.1.n
  have hvs := hv.1 s hs
  have hvb := hv.2.1 b hb
  have h2 : RC (sI M 22 s 1) D := h.onlyW (OnlyK.rf.I (by unfold inW; omega))
  have hR := h.1
  have c := hr.2.2.1 b hb
  unfold f_X11_trades_102
  rw [aB_t s zR_22 rfl (by omega) (by decide), gd_t, vpn1, nI_clamp (n := s) (by omega), nx_t, oR, gd_t, rr_37 hR.I, bd_t, aB_t b zR_23 rfl (by omega) (by decide), gd_t, nI_clamp (n := b) (by omega), show gI (sI M 22 s 1) 23 b = nI (H 4 b 0) by rw [gI_sI, if_neg (by omega)]; exact c.1]
  by_cases e : H 4 b 0 < H 0 s 0
  · rw [if_pos (nI_lt e (by omega))]
  · rw [if_neg (nI_nlt (by omega) (by omega)), rr_21 hR.I, bd_t, (trLim h2 hb hw).1, gd_t, nx_t, (trLim h2 hb hw).2, wouldR_no h2 hb hm (by omega) (by omega) (fun j hj => by rw [gI_sI, if_neg (by omega)]; exact c.2.2.2.2 j hj), bd_t, if_pos rfl]
theorem tr102_ok {M : Mem} {D : MK} {H : HS} {s b m w : Nat} (h : RC M D) (hr : RH M D H) (hv : IvH D m H) (hq : ∀ i, i < H 8 0 0 → H 9 i 0 ≤ 60) (hs : s < kNs D) (hb : b < kNb D) (hm : m < kMi D) (hw : w < kBy D b 3) (h0 : 0 < H 1 s 0) (hx : 0 < H 5 b w) (hl : H 0 s 0 ≤ kWt D b w 2) (hp : H 0 s 0 ≤ H 4 b 0) :
    ∃ M', f_X11_trades_102 M 0 (nI s) (nI b) (nI m) (nI w) (nI (H 0 s 0)) (nI (H 3 s 0)) (nI s) 22 = some M' ∧ OnlyK inW M M' ∧ RH M' D (if wdS D H b (H 0 s 0) (kWt D b w 2) m then slS D H m s b w else H) := by
  have hW := h.2.1
  have hn := hW.n
  have hMi := hW.mi
  have hvs := hv.1 s hs
  have hvb := hv.2.1 b hb
  have hby := hW.2.2.2.2.2.2 b hb
  have h160 := hv.lt hW hs h0
  have hd := hv.2.2.2 b hb
  have hwt := hby.2.2.2.2.1 w hw
  have m3 : (3 : Int32) * nI b + nI w = nI (3 * b + w) := by rw [show (3 : Int32) = nI 3 from rfl, pk_mul, nI_add]
  have m60 : (60 : Int32) * nI b + nI m = nI (60 * b + m) := by rw [show (60 : Int32) = nI 60 from rfl, pk_mul, nI_add]
  have n1 : ∀ k, 0 < k → nI k - 1 = nI (k - 1) := fun k hk => by rw [show (1 : Int32) = nI 1 from rfl, pk_sub (by omega)]
  have eb : vp_nar .boolean (nI (H 3 s 0)) = nI (H 3 s 0) := by
    have : H 3 s 0 = 0 ∨ H 3 s 0 = 1 := by omega
    rcases this with e | e <;> rw [e] <;> rfl
  have hO2 : OnlyK inW M (sI M 22 s (nI (H 3 s 0))) := OnlyK.rf.I (by unfold inW; omega)
  have e2 : ∀ a k, gI (sI M 22 s (nI (H 3 s 0))) a k = gI M a k := fun a k => by
    rw [gI_sI]
    by_cases q : a = 22 ∧ k = s
    · obtain ⟨rfl, rfl⟩ := q
      rw [if_pos ⟨rfl, rfl⟩, (hr.2.1 k hs).2.2.2.2.2.2]
    · rw [if_neg q]
  have h2 := h.onlyW hO2
  have r2 := hr.cong e2
  unfold f_X11_trades_102
  rw [aB_t s zR_22 rfl (by omega) (by decide), gd_t, eb, nI_clamp (n := s) (by omega), nx_t]
  generalize sI M 22 s (nI (H 3 s 0)) = N at *
  have hR := h2.1
  have c := r2.2.2.1 b hb
  have cs := r2.2.1 s hs
  rw [oR, gd_t, rr_37 hR, bd_t, aB_t b zR_23 rfl (by omega) (by decide), gd_t, nI_clamp (n := b) (by omega), c.1, if_neg (nI_nlt hp (by omega)), rr_21 hR, bd_t, (trLim h2 hb hw).1, gd_t, nx_t, (trLim h2 hb hw).2, wouldR_eq h2 hb hm hl (by omega) c.2.2.2.2 hd.2.2.1, bd_t]
  by_cases q : wdS D H b (H 0 s 0) (kWt D b w 2) m = true
  · rw [if_pos q, if_pos q, if_neg (by decide), rr_30 hR, bd_t, aB_t s zR_16 rfl (by omega) (by decide), gd_t, nx_t, cs.1, n1 _ h0]
    rw [rr_40 hR.I, bd_t, m3, aB_t (3 * b + w) zR_26 rfl (by omega) (by decide), gd_t, nx_t, nx_t, nI_clamp (n := 3 * b + w) (by omega), show gI (sI N 16 s (nI (H 1 s 0 - 1))) 26 (3 * b + w) = nI (H 5 b w) by rw [gI_sI, if_neg (by omega), c.2.2.2.1 w (by omega), if_pos hw], n1 _ hx]
    rw [nx_t, show gI (sI (sI N 16 s (nI (H 1 s 0 - 1))) 26 (3 * b + w) (nI (H 5 b w - 1))) 23 b = nI (H 4 b 0) by rw [gI_sI, if_neg (by omega), gI_sI, if_neg (by omega)]; exact c.1, pk_sub hp]
    rw [rr_38 hR.I.I.I, bd_t, aB_t b zR_24 rfl (by omega) (by decide), gd_t, nx_t, show gI (sI (sI (sI N 16 s (nI (H 1 s 0 - 1))) 26 (3 * b + w) (nI (H 5 b w - 1))) 23 b (nI (H 4 b 0 - H 0 s 0))) 24 b = nI (gtS H b (H 8 0 0)) by rw [gI_sI, if_neg (by omega), gI_sI, if_neg (by omega), gI_sI, if_neg (by omega)]; exact c.2.1, nI_1]
    rw [rr_41 hR.I.I.I.I, bd_t, m60, aB_t (60 * b + m) zR_27 rfl (by omega) (by decide), gd_t, nx_t, nI_clamp (n := 60 * b + m) (by omega), vpn1]
    have fin := r2.sl hW hs hb hm hw h0 hp hx h160 hq
    rw [show sI (sI (sI (sI (sI N 16 s (nI (H 1 s 0 - 1))) 26 (3 * b + w) (nI (H 5 b w - 1))) 23 b (nI (H 4 b 0 - H 0 s 0))) 24 b (nI (gtS H b (H 8 0 0) + 1))) 27 (60 * b + m) 1 = se5 N s b m w (nI (H 1 s 0 - 1)) (nI (H 5 b w - 1)) (nI (H 4 b 0 - H 0 s 0)) (nI (gtS H b (H 8 0 0) + 1)) from rfl]
    have hO5 : OnlyK inW N (se5 N s b m w (nI (H 1 s 0 - 1)) (nI (H 5 b w - 1)) (nI (H 4 b 0 - H 0 s 0)) (nI (gtS H b (H 8 0 0) + 1))) := ((((OnlyK.rf.I (by unfold inW; omega)).I (by unfold inW; omega)).I (by unfold inW; omega)).I (by unfold inW; omega)).I (by unfold inW; omega)
    have g5 : ∀ a k, ¬ ((a = 16 ∧ k = s) ∨ (a = 26 ∧ k = 3 * b + w) ∨ (a = 23 ∧ k = b) ∨ (a = 24 ∧ k = b) ∨ (a = 27 ∧ k = 60 * b + m)) → gI (se5 N s b m w (nI (H 1 s 0 - 1)) (nI (H 5 b w - 1)) (nI (H 4 b 0 - H 0 s 0)) (nI (gtS H b (H 8 0 0) + 1))) a k = gI N a k := fun a k z => se5_g a k z
    have g5l : ∀ v, v < 3 → gI (se5 N s b m w (nI (H 1 s 0 - 1)) (nI (H 5 b w - 1)) (nI (H 4 b 0 - H 0 s 0)) (nI (gtS H b (H 8 0 0) + 1))) 26 (3 * b + v) = nI (if v < kBy D b 3 then slL H b w 5 b v else 0) := fun v hv3 => by
      by_cases e : v = w
      · subst e
        unfold se5
        rw [gI_sI, if_neg (by omega), gI_sI, if_neg (by omega), gI_sI, if_neg (by omega), gI_sI, if_pos ⟨rfl, rfl⟩, if_pos hw]
        simp [slL]
      · rw [se5_g _ _ (by omega), c.2.2.2.1 v hv3]
        have : slL H b w 5 b v = H 5 b v := by simp [slL, e]
        rw [this]
    generalize se5 N s b m w (nI (H 1 s 0 - 1)) (nI (H 5 b w - 1)) (nI (H 4 b 0 - H 0 s 0)) (nI (gtS H b (H 8 0 0) + 1)) = N5 at *
    have hlk : lkS (slL H b w) b (kBy D b 3) ≤ 27 := by
      have := lkS_le (H := slL H b w) (b := b) (fun v hv3 => by
        unfold slL
        have h1 := hvb.2 v hv3
        split
        · rename_i z
          obtain ⟨-, -, rfl⟩ := z
          omega
        · exact h1) (kBy D b 3) (by omega)
      omega
    rw [lackOfR_eq (hO5.RR hR) (by omega) (by omega) g5l, bd_t]
    have hR5 := hO5.RR hR
    have go : ∀ z : Bool, ∃ M', f_X11_trades_215 (se6 N5 b m z) 0 (nI s) (nI b) (nI m) (nI (H 0 s 0)) = some M' ∧ OnlyK inW N5 M' ∧ M' = tr9 (se6 N5 b m z) s b m (H 0 s 0) (H 8 0 0) (tkS H s (H 8 0 0)) (ctS H s (H 8 0 0)) (pdS H (H 8 0 0)) (if gI N 20 s = -1 then nI m else gI N 20 s) := fun z => by
      have hO6 : OnlyK inW N5 (se6 N5 b m z) := by
        unfold se6
        split
        · exact OnlyK.rf.I (by unfold inW; omega)
        · exact OnlyK.rf
      refine ⟨_, ?_, ?_, rfl⟩
      · rw [tr215_eq (n := H 8 0 0) (pd := pdS H (H 8 0 0)) (tk := tkS H s (H 8 0 0)) (ct := ctS H s (H 8 0 0)) (hO6.RR hR5) (by omega) h160 (by rw [se6_g _ _ (by omega), g5 _ _ (by omega)]; exact r2.1.1) (by rw [se6_g _ _ (by omega), g5 _ _ (by omega)]; exact r2.1.2) (by rw [se6_g _ _ (by omega), g5 _ _ (by omega)]; exact cs.2.2.1) (by rw [se6_g _ _ (by omega), g5 _ _ (by omega)]; exact cs.2.2.2.1), show gI (se6 N5 b m z) 20 s = gI N 20 s by rw [se6_g _ _ (by omega), g5 _ _ (by omega)]]
      · exact hO6.tr ((((((((((OnlyK.rf.I (by unfold inW; omega)).I (by unfold inW; omega)).I (by unfold inW; omega)).I (by unfold inW; omega)).I (by unfold inW; omega)).I (by unfold inW; omega)).I (by unfold inW; omega)).I (by unfold inW; omega)).I (by unfold inW; omega)).I (by unfold inW; omega))
    by_cases z : lkS (slL H b w) b (kBy D b 3) = 0
    · rw [if_pos (by rw [z]; rfl), rr_39 hR5, bd_t, aB_t b zR_25 rfl (by omega) (by decide), gd_t, nx_t]
      obtain ⟨M', e1, e3, e4⟩ := go true
      refine ⟨M', e1, (hO2.tr hO5).tr e3, ?_⟩
      rw [e4]
      rw [show decide (lkS (slL H b w) b (kBy D b 3) = 0) = true by simp [z]] at fin
      exact fin
    · rw [if_neg (nI_ne0 (by omega) (by omega))]
      obtain ⟨M', e1, e3, e4⟩ := go false
      refine ⟨M', e1, (hO2.tr hO5).tr e3, ?_⟩
      rw [e4]
      rw [show decide (lkS (slL H b w) b (kBy D b 3) = 0) = false by simp [z]] at fin
      exact fin
  · rw [if_neg q, if_neg q, if_pos rfl]
    exact ⟨N, rfl, hO2, r2⟩
