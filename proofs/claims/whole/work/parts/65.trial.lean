/-! TRIALS: the class plays its draft market, the reference its own with a change -/
section TR
variable {p d : Nat} {D : MK} {M1 M2 : Mem}
theorem Rel0.ne (h : Rel0 p d D M1 M2) : p ≠ d := by rcases h.2.2.2.2.1 with z | z <;> omega
theorem Rel0.d_or (h : Rel0 p d D M1 M2) : d = 3 ∨ d = 42 := by rcases h.2.2.2.2.1 with z | z <;> omega
theorem Rel0.dj (h : Rel0 p d D M1 M2) : p + 39 ≤ d ∨ d + 39 ≤ p := by rcases h.2.2.2.2.1 with z | z <;> omega
/-- what is written in the draft is nothing that lasts -/
theorem Rel0.dr (h : Rel0 p d D M1 M2) {M' : Mem} (hO : OnlyL (inB d) M1 M') : KeepC p M1 M' := by
  have hd := h.d_or
  have hj := h.dj
  refine ⟨hO.CR h.c, hO.gR _ _, hO.gR _ _, fun k => (hO.2 1 (by unfold inB; omega)).1 k, fun k => (hO.2 2 (by unfold inB; omega)).1 k, fun a q1 q2 => hO.2 a (by unfold inB; omega), fun k => (hO.2 82 (by unfold inB; omega)).1 k, fun a q1 q2 => hO.2 a (by unfold inB; omega)⟩
theorem trialM (h : Rel0 p d D M1 M2) : ∃ M', f_X10_trialMarket M1 0 = some (M', d) ∧ KeepC p M1 M' ∧ CM M' d D := by
  obtain ⟨M', e1, e2, e3⟩ := take_eq h.db h.mb (fun z => h.ne z.symm) h.c h.wf h.cm
  refine ⟨M', ?_, h.dr e2, e3⟩
  unfold f_X10_trialMarket
  rw [oC_0, gd_t, h.g2, bd_t, h.g1, bd_t, (mb_sh d h.db).1, gd_t, e1, bd_t, e2.gR, h.g2, bd_t]
theorem trialH (h : Rel0 p d D M1 M2) {D' : MK} (hC : CM M1 d D') (hW : WFD D') (h0 : 0 < kMi D') : ∃ M', f_X10_trialHour M1 0 d = some (M', 84) ∧ KeepC p M1 M' ∧ EH M' d D' ∧ gI M' 0 7 = 0 := by
  obtain ⟨M', b1, b2, b3, b4⟩ := play_eq h.db h.c hW hC h0
  have hC2 : CR (sI M' 0 7 0) := b2.I
  have hd := h.d_or
  have hC3 : CM M' d D' := hC.keep hW.n (fun a q1 q2 => ⟨fun k => b3.1 a (by omega) k, fun k => b3.2.1 a k⟩)
  refine ⟨sI M' 0 7 0, ?_, (KeepC.H b3 b2 h.2.2.2.2.1).I (Or.inl rfl) (p_or h), ⟨hC2, h.db, hW, hC3.i0 hW (by omega), b4.I0, h0⟩, ?_⟩
  · unfold f_X10_trialHour
    rw [oC_0, gd_t, cr_0_6 h.c, bd_t, oC_84, gd_t, b1, bd_t, nx_t, cr_0_6 hC2, bd_t]
  · rw [gI_sI, if_pos ⟨rfl, rfl⟩]
theorem Rel0.kc (h : Rel0 p d D M1 M2) {M' : Mem} (hk : KeepC p M1 M') : Rel0 p d D M' M2 := h.keep hk (KeepR.rf h.r)
/-- the draft written at one place -/
theorem Rel0.dI (h : Rel0 p d D M1 M2) {a k : Nat} {v : Int32} (ha : inB d a) : KeepC p M1 (sI M1 a k v) := h.dr (OnlyL.rf.I ha)
theorem Rel0.dL (h : Rel0 p d D M1 M2) {a k : Nat} {v : Int64} (ha : inB d a) : KeepC p M1 (sL M1 a k v) := h.dr (OnlyL.rf.L ha)
end TR
/-! the reference's own market, changed for a while -/
theorem KeepR.sw {M M' : Mem} {a k : Nat} {v w : Int32} (h : KeepR (sI M a k v) M') (hR : RR M) : KeepR (sI M a k w) (sI M' a k w) := by
  refine ⟨h.1.I, fun b j q => ?_, fun j => h.2.2 j⟩
  rw [gI_sI, gI_sI]
  by_cases z : b = a ∧ j = k
  · rw [if_pos z, if_pos z]
  · rw [if_neg z, if_neg z, h.2.1 b j q, gI_sI, if_neg z]
theorem KeepR.bk {M M' : Mem} {a k : Nat} {v : Int32} (h : KeepR (sI M a k v) M') (hv : v = gI M a k) : KeepR M M' := by
  refine ⟨h.1, fun b j q => ?_, fun j => h.2.2 j⟩
  rw [h.2.1 b j q, gI_sI]
  by_cases z : b = a ∧ j = k
  · rw [if_pos z, hv, z.1, z.2]
  · rw [if_neg z]
theorem KeepR.fw {M : Mem} {a k : Nat} {v : Int32} (hR : RR M) (hv : v = gI M a k) : KeepR (sI M a k v) M := by
  refine ⟨hR, fun b j q => ?_, fun j => rfl⟩
  rw [gI_sI]
  by_cases z : b = a ∧ j = k
  · rw [if_pos z, hv, z.1, z.2]
  · rw [if_neg z]
theorem upD_up {D : MK} {t i j v w : Nat} : upD (upD D t i j v) t i j w = upD D t i j w := by
  funext a b c e
  unfold upD
  by_cases z : a = t ∧ b = i ∧ c = j ∧ e = 0
  · rw [if_pos z, if_pos z]
  · rw [if_neg z, if_neg z, if_neg z]
theorem upD_id {D : MK} {t i j : Nat} : upD D t i j (D t i j 0) = D := by
  funext a b c e
  unfold upD
  by_cases z : a = t ∧ b = i ∧ c = j ∧ e = 0
  · rw [if_pos z, z.1, z.2.1, z.2.2.1, z.2.2.2]
  · rw [if_neg z]
/-! wise -/
/-- what the stall s takes at the price v -/
def wsT (D : MK) (s v : Nat) : Nat := tkS (hrS (upD D 3 s 4 v) (kMi D)) s (hrS (upD D 3 s 4 v) (kMi D) 8 0 0)
def wsG (D : MK) (s k : Nat) (c : Int32 × Int32) : Int32 × Int32 := if nI (wsT D s k) ≤ c.1 then c else (nI (wsT D s k), nI k)
section WI
variable {p d : Nat} {D : MK} {M1 M2 : Mem}
theorem wise1 (h : Rel0 p d D M1 M2) {s : Nat} (hs : s < kNs D) (h0 : 0 < kMi D) : ∀ n k M c, k ≤ 100 → 100 < n + k → KeepC p M1 M → (∃ v, CM M d (upD D 3 s 4 v)) → (k = 0 ∨ gI M 0 7 = 0) → ∃ M', f_X10_wise_27 n M 0 (nI s) d c.1 c.2 (nI k) = some (M', (foS (wsG D s) (100 - k) k c).2) ∧ KeepC p M1 M' ∧ gI M' 0 7 = 0 := by
  have hb := h.ba
  have hd := h.d_or
  intro n
  induction n with
  | zero => intro k M c h1 h2; omega
  | succ n ih =>
    intro k M c h1 h2 hk hv h7
    show ∃ M', s_X10_wise_27 (f_X10_wise_27 n) M 0 (nI s) d c.1 c.2 (nI k) = _ ∧ _
    unfold s_X10_wise_27
    by_cases e : k = 100
    · subst e
      rw [if_pos (by decide)]
      exact ⟨M, rfl, hk, h7.resolve_left (by decide)⟩
    obtain ⟨v, hv⟩ := hv
    have hr := h.kc hk
    have ms := mb_sh d h.db
    have hW : WFD (upD D 3 s 4 k) := wf_price h.wf (by omega)
    have hC : CM (sI M (d + 7 + s) 4 (nI k)) d (upD D 3 s 4 k) := by
      have := cm_price (v := k) (x := s) hv (by omega) (by exact ⟨h.wf.n.2.1, h.wf.n.1⟩)
      rwa [upD_up] at this
    have hr2 := hr.kc (hr.dI (a := d + 7 + s) (k := 4) (v := nI k) (by unfold inB; omega))
    obtain ⟨M', t1, t2, t3, t4⟩ := trialH hr2 hC hW h0
    rw [if_neg (fun z => absurd ((le_nI (a := 100) (b := k) (by decide) (by omega)).mp (by
      rw [Int32.le_iff_toInt_le, nI_toInt (by omega), nI_toInt (by omega)]
      have := Int32.lt_iff_toInt_lt.mp z
      rw [nI_toInt (by omega), show (99 : Int32).toInt = 99 by decide] at this
      omega)) (by omega)), ms.1, gd_t, mk_7 hr.c h.db, bd_t, aB_t s ms.2.2.1 rfl (by omega) (by decide), gd_t, nI_clamp (by omega), mk_s hr.c h.db (by omega), bd_t, ms.2.2.2.2.2.1 s (by omega), gd_t, nx_t, oC_0, gd_t, t1, bd_t]
    dsimp only
    rw [oC_84, gd_t, takenAt_eq t3 (s := s) hs, bd_t]
    have hk' : KeepC p M1 M' := (hk.tr (hr.dI (a := d + 7 + s) (k := 4) (v := nI k) (by unfold inB; omega))).tr t2
    obtain ⟨y, hy⟩ : ∃ y, 100 - k = y + 1 := ⟨99 - k, by omega⟩
    have key := fun c' => ih (k + 1) M' c' (by omega) (by omega) hk' ⟨k, t3.2.2.2.1⟩ (Or.inr t4)
    rw [hy]
    show ∃ M'', (if nI (wsT D s k) ≤ c.1 then _ else _) = some (M'', (foS (wsG D s) y (k + 1) (wsG D s k c)).2) ∧ _
    rw [show y = 100 - (k + 1) by omega, nI_1]
    unfold wsG
    by_cases q : nI (wsT D s k) ≤ c.1
    · rw [if_pos q, if_pos q]
      exact key c
    · rw [if_neg q, if_neg q]
      exact key (nI (wsT D s k), nI k)
theorem wise2 (hR : RR M2) (hW : WFD D) (hm : RM M2 0 D) {s : Nat} (hs : s < kNs D) (h0 : 0 < kMi D) : ∀ n k M c, k ≤ 100 → 100 < n + k → (∃ v, KeepR (sI M2 9 (7 * s + 4) v) M) → ∃ M', f_X11_wise_31 n M 0 (nI s) (gI M2 9 (7 * s + 4)) c.2 c.1 (nI k) = some (M', (foS (wsG D s) (100 - k) k c).2) ∧ KeepR M2 M' := by
  have hn := hW.n
  intro n
  induction n with
  | zero => intro k M c h1 h2; omega
  | succ n ih =>
    intro k M c h1 h2 hv
    obtain ⟨v, hv⟩ := hv
    have ix : aB shR 9 0 (7 * nI s + 4) = true := by
      rw [m7_4]
      exact aB_t (7 * s + 4) zR_9 rfl (by omega) (by decide)
    have ic : ((7 * nI s + 4 : Int32)).toNatClampNeg = 7 * s + 4 := by rw [m7_4, nI_clamp (by omega)]
    show ∃ M', s_X11_wise_31 (f_X11_wise_31 n) M 0 (nI s) _ c.2 c.1 (nI k) = _ ∧ _
    unfold s_X11_wise_31
    by_cases e : k = 100
    · subst e
      rw [if_pos (by decide), oR, gd_t, rr_19 hv.1, bd_t, ix, gd_t, nx_t, ic]
      exact ⟨_, rfl, (hv.sw hR).bk rfl⟩
    have hk2 := hv.sw (w := nI k) hR
    have hm2 : RM (sI M 9 (7 * s + 4) (nI k)) 0 (upD D 3 s 4 k) := (rm_price hm).keep hk2
    have hW2 : WFD (upD D 3 s 4 k) := wf_price hW (by omega)
    obtain ⟨M', t1, t2, t3, -⟩ := plainHour_eq hk2.1 hW2 hm2 h0
    have q := t3.2.1.2.1 s hs
    rw [if_neg (fun z => absurd ((le_nI (a := 100) (b := k) (by decide) (by omega)).mp (by
      rw [Int32.le_iff_toInt_le, nI_toInt (by omega), nI_toInt (by omega)]
      have := Int32.lt_iff_toInt_lt.mp z
      rw [nI_toInt (by omega), show (99 : Int32).toInt = 99 by decide] at this
      omega)) (by omega)), oR, gd_t, rr_19 hv.1, bd_t, ix, gd_t, nx_t, ic, t1, bd_t, rr_32 t2.1, bd_t, aB_t s zR_18 rfl (by omega) (by decide), gd_t, nI_clamp (n := s) (by omega), q.2.2.1, nI_1]
    obtain ⟨y, hy⟩ : ∃ y, 100 - k = y + 1 := ⟨99 - k, by omega⟩
    have key := fun c' => ih (k + 1) M' c' (by omega) (by omega) ⟨nI k, hk2.tr t2⟩
    rw [hy]
    show ∃ M'', (if c.1 < nI (wsT D s k) then _ else _) = some (M'', (foS (wsG D s) y (k + 1) (wsG D s k c)).2) ∧ _
    rw [show y = 100 - (k + 1) by omega]
    unfold wsG
    by_cases q : nI (wsT D s k) ≤ c.1
    · rw [if_neg (Int32.not_lt.mpr q), if_pos q]
      exact key c
    · rw [if_pos (Int32.not_le.mp q), if_neg q]
      exact key (nI (wsT D s k), nI k)
end WI
theorem tkS_le {H : HS} {s : Nat} : ∀ n, (∀ i, i < n → H 9 i 3 ≤ 99) → tkS H s n ≤ 99 * n
  | 0, _ => Nat.le_refl _
  | n + 1, h => by
    have := tkS_le (H := H) (s := s) n (fun i hi => h i (by omega))
    have := h n (by omega)
    unfold tkS
    split <;> omega
theorem eq_wise {M1 M2 : Mem} (h : Rel M1 M2) (a : Int32) : Same (f_X10_wise M1 0 a) (f_X11_wise M2 0 a) := by
  obtain ⟨p, d, D, h, hk⟩ := h
  have h' := h.r0
  have hb := h.ba
  unfold f_X10_wise f_X11_wise
  rw [oC_0, gd_t, h.g1, bd_t, h.oP, gd_t, oR, gd_t, nx_t, gS1 h, bd_t, gS2 h', bd_t]
  rcases ix_or a (kNs D) (by omega) with z | ⟨s, hs, rfl⟩
  · rw [if_neg z, if_pos rfl, if_pos rfl]
    exact same_no h' hk _
  have h0 := (some_p h (Or.inl (by omega))).1
  obtain ⟨M, t1, t2, t3⟩ := trialM h'
  rw [if_pos (ix_in hs (by omega)), if_neg (show ¬ (1 : Int32) = 0 by decide), if_neg (show ¬ (1 : Int32) = 0 by decide), t1, bd_t, of_eq h'.r (s := s) (j := 4) (y := 4) (by omega) (by decide) rfl rfl, bd_t]
  dsimp only
  obtain ⟨Ma, a1, a2, a3⟩ := wise1 h' hs h0 FU 0 M (-1, 0) (by decide) (by decide) t2 ⟨kSl D s 4, by
    have e : upD D 3 s 4 (kSl D s 4) = D := upD_id
    rw [e]
    exact t3⟩ (Or.inl rfl)
  obtain ⟨Mb, b1, b2⟩ := wise2 h'.r h.wf h'.rm hs h0 FU 0 (sI M2 0 0 0) (-1, -1) (by decide) (by decide) ⟨_, KeepR.fw h'.r rfl⟩
  have ec : (foS (wsG D s) (100 - 0) 0 (-1, 0)).2 = (foS (wsG D s) (100 - 0) 0 (-1, -1)).2 := by
    have hn : ∀ c : Int32, wsG D s 0 (-1, c) = (nI (wsT D s 0), nI 0) := fun c => by
      have hl : wsT D s 0 ≤ 99 * 160 := by
        have hW2 : WFD (upD D 3 s 4 0) := wf_price h.wf (by omega)
        have q := tkS_le (H := hrS (upD D 3 s 4 0) (kMi D)) (s := s) _ (fun i hi => ((iy_hr hW2 (kMi D) hb.1).1 i hi).2.2.2)
        have := n_hr hW2 (kMi D)
        unfold wsT
        omega
      unfold wsG
      rw [if_neg]
      intro z
      have := Int32.le_iff_toInt_le.mp z
      rw [nI_toInt (by omega), show (-1 : Int32).toInt = -1 by decide] at this
      omega
    show (foS (wsG D s) 99 1 (wsG D s 0 (-1, 0))).2 = (foS (wsG D s) 99 1 (wsG D s 0 (-1, -1))).2
    rw [hn, hn]
  have a1' : f_X10_wise_27 FU M 0 (nI s) d (-1) 0 0 = some (Ma, (foS (wsG D s) (100 - 0) 0 (-1, 0)).2) := a1
  have b1' : f_X11_wise_31 FU (sI M2 0 0 0) 0 (nI s) (gI (sI M2 0 0 0) 9 (7 * s + 4)) (-1) (-1) 0 = some (Mb, (foS (wsG D s) (100 - 0) 0 (-1, -1)).2) := b1
  rw [a1', b1', ec]
  exact ⟨_, _, _, rfl, rfl, p, d, D, h'.keep a2 b2, Or.inl a3⟩
