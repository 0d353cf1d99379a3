/-! HARM, LEAST, DRAWN, CHANCE -/
section HA
variable {p d : Nat} {D : MK} {M1 M2 : Mem}
theorem sIfStuck (h : Rel0 p d D M1 M2) (h0 : 0 < kMi D) {r m : Nat} (hr : r < kNr D) (hm : m < kMi D) : ∃ M', f_X10_salesIfStuck M1 0 (nI r) (nI m) = some (M', nI (stT D r m)) ∧ KeepC p M1 M' ∧ gI M' 0 7 = 0 := by
  have hn := h.ba
  have hd := h.d_or
  have hj := h.dj
  obtain ⟨M, t1, t2, t3⟩ := trialM h
  have hq := h.kc t2
  have ms := mb_sh d h.db
  have k1 := hq.dL (a := d + 4 + r) (k := 2) (v := gL M (d + 4 + r) 2 ||| ((-1) <<< ((nI m).toInt64 &&& 63))) (by unfold inB; omega)
  have hq1 := hq.kc k1
  have hC : CM (sL M (d + 4 + r) 2 (gL M (d + 4 + r) 2 ||| ((-1) <<< ((nI m).toInt64 &&& 63)))) d (stD D r m) := st_alk.cm t3 (fun _ _ _ => rfl) h.wf.n (fun r' hr' m' hm' => by
    have hb := (t3.2.1 r' hr').2.2 m' hm'
    rw [gL_sL]
    unfold kSt stD
    by_cases e : r' = r
    · subst e
      rw [if_pos ⟨rfl, rfl⟩, bitL_oo, hb, m1_bit m (by omega) m' hm']
      by_cases y : m ≤ m'
      · rw [if_pos ⟨rfl, rfl, y⟩, decide_eq_true y, Bool.or_true]
        rfl
      · rw [if_neg (fun z => y z.2.2), decide_eq_false y, Bool.or_false]
        rfl
    · rw [if_neg (fun z => e (by omega)), hb, if_neg (fun z => e z.2.1)]
      rfl)
  obtain ⟨M', u1, u2, u3, u4⟩ := trialH hq1 hC (st_alk.wf h.wf (st_le h.wf)) h0
  refine ⟨M', ?_, (t2.tr k1).tr u2, u4⟩
  unfold f_X10_salesIfStuck
  rw [oC_0, gd_t, t1, bd_t]
  dsimp only
  rw [ms.1, gd_t, mk_6 hq.c h.db, bd_t, aB_t r ms.2.1 rfl (by omega) (by decide), gd_t, nI_clamp (by omega), mk_r hq.c h.db (by omega), bd_t, ms.2.2.2.2.1 r (by omega), gd_t, nx_t, nx_t, u1, bd_t]
  dsimp only
  rw [oC_84, gd_t, u3.g4]
  rfl
theorem harmOf_eq {M : Mem} (hR : RR M) (hW : WFD D) (hm : RM M 0 D) (h0 : 0 < kMi D) {r m : Nat} (hr : r < kNr D) (hmi : m < kMi D) : ∃ M', f_X11_harmOf M 0 (nI r) (nI m) = some (M', nI (hrS D (kMi D) 8 0 0) - nI (stT D r m)) ∧ KeepR M M' := by
  have hMi := hW.mi
  have hN := hW.n
  obtain ⟨Ma, a1, a2, a3, a4, a5⟩ := salesNow_eq hR hW hm h0
  have kM : KeepR M (sI (sI Ma 0 25 (nI r)) 0 26 (nI m)) := (a2.I (a := 0) (k := 25) rfl).I (a := 0) (k := 26) rfl
  have hm4 := hm.keep kM
  have e25 : gI (sI (sI Ma 0 25 (nI r)) 0 26 (nI m)) 0 25 = nI r := by rw [gI_sI, if_neg (by omega), gI_sI, if_pos ⟨rfl, rfl⟩]
  have e26 : gI (sI (sI Ma 0 25 (nI r)) 0 26 (nI m)) 0 26 = nI m := by rw [gI_sI, if_pos ⟨rfl, rfl⟩]
  have e27 : gI (sI (sI Ma 0 25 (nI r)) 0 26 (nI m)) 0 27 = -1 := by rw [gI_sI, if_neg (by omega), gI_sI, if_neg (by omega), a5]
  have hT : TuR (sI (sI Ma 0 25 (nI r)) 0 26 (nI m)) (stD D r m) (seqX 0) := by
    refine tuR_of kM.1 hW hm4 (fun _ => rfl) rfl rfl (fun _ => rfl) (fun r' m' hr' hm' => ?_)
    rw [e25, e26, e27]
    have q : kSt (stD D r m) r' m' = if r' = r ∧ m ≤ m' then 1 else kSt D r' m' := by
      unfold kSt stD
      by_cases z : r' = r ∧ m ≤ m'
      · rw [if_pos z, if_pos ⟨rfl, z⟩]
      · rw [if_neg z, if_neg (fun y => z y.2)]
    rw [q]
    by_cases z : r' = r ∧ m ≤ m'
    · rw [if_pos z]
      exact ⟨fun _ => Or.inl (Or.inr ⟨by rw [z.1], fun y => by
        have := (Int32.not_le.mpr y)
        exact this ((nI_leI (by omega) (by omega)).mpr z.2)⟩), fun _ => rfl⟩
    · rw [if_neg z]
      constructor
      · exact fun y => Or.inl (Or.inl y)
      · rintro ((y | y) | y)
        · exact y
        · exact absurd ⟨(nI_eq (by omega) (by omega)).mp y.1, (nI_leI (by omega) (by omega)).mp (Int32.not_lt.mp y.2)⟩ z
        · exact absurd rfl y.1
  obtain ⟨Mb, b1, b2, b3, -⟩ := rhour_eq (st_alk.wf hW (st_le hW)) hT (st_alk.rm0 hm4.1) (fun z => absurd e27 z) h0
  refine ⟨sI Mb 0 25 (-1), ?_, (kM.tr b2).I rfl⟩
  unfold f_X11_harmOf
  rw [oR, gd_t, a1, bd_t, nx_t, nx_t, b1, bd_t, nx_t, gI_sI, if_neg (by omega), b3.2.1.1.1]
  rfl
theorem eq_harm {M1 M2 : Mem} (h : Rel M1 M2) (a b : Int32) : Same (f_X10_harm M1 0 a b) (f_X11_harm M2 0 a b) := by
  obtain ⟨p, d, D, h, hk⟩ := h
  have h' := h.r0
  have hb := h.ba
  unfold f_X10_harm f_X11_harm
  rw [oC_0, gd_t, h.g1, bd_t, h.oP, gd_t, oR, gd_t, nx_t, gR1 h, bd_t, gR2 h', bd_t]
  rcases ix_or a (kNr D) (by omega) with z | ⟨r, hr, rfl⟩
  · rw [if_neg z, if_pos rfl, if_pos rfl]
    exact same_no h' hk _
  rw [if_pos (ix_in hr (by omega)), if_neg (show ¬ (1 : Int32) = 0 by decide), if_neg (show ¬ (1 : Int32) = 0 by decide), gM1 h, bd_t, gM2 h', bd_t]
  rcases ix_or b (kMi D) (by omega) with z | ⟨m, hm, rfl⟩
  · rw [if_neg z, if_pos rfl, if_pos rfl]
    exact same_no h' hk _
  have h0 : 0 < kMi D := by omega
  obtain ⟨Ma, t1, t2, t3⟩ := told_eq h' hk h0
  have ha := h'.kc t2
  obtain ⟨Mb, u1, u2, u3⟩ := sIfStuck ha h0 hr hm
  obtain ⟨Mc, c1, c2⟩ := harmOf_eq h'.r h.wf h'.rm h0 hr hm
  rw [if_pos (ix_in hm (by omega)), if_neg (show ¬ (1 : Int32) = 0 by decide), if_neg (show ¬ (1 : Int32) = 0 by decide), t1, bd_t]
  dsimp only
  rw [oC_84, gd_t, u1, bd_t, c1, bd_t, (eh_of ha t3 h0).g4]
  exact ⟨_, _, _, rfl, rfl, p, d, D, h'.keep (t2.tr u2) c2, Or.inl u3⟩
/-! least -/
def lsG1 (D : MK) (m k : Nat) (c : Int32 × Int32) : Int32 × Int32 := if nI (stT D k m) ≤ c.1 then c else (nI (stT D k m), nI k)
def lsG2 (D : MK) (m k : Nat) (c : Int32 × Int32) : Int32 × Int32 := if nI (hrS D (kMi D) 8 0 0) - nI (stT D k m) < c.2 then (nI k, nI (hrS D (kMi D) 8 0 0) - nI (stT D k m)) else c
def LsR (D : MK) (c c' : Int32 × Int32) : Prop := c.2 = c'.1 ∧ ((c.1 = -1 ∧ c'.2 = 1000000) ∨ ∃ t, t ≤ 160 ∧ c.1 = nI t ∧ c'.2 = nI (hrS D (kMi D) 8 0 0) - nI t)
theorem stT_le {r m : Nat} (hW : WFD D) : stT D r m ≤ 160 := n_hr (st_alk.wf hW (st_le hW)) _
theorem ls_step (hW : WFD D) {m k : Nat} {c c' : Int32 × Int32} (h : LsR D c c') : LsR D (lsG1 D m k c) (lsG2 D m k c') := by
  have hS : hrS D (kMi D) 8 0 0 ≤ 160 := n_hr hW _
  have hT := stT_le (r := k) (m := m) hW
  have eT := pk_sub_toInt (a := hrS D (kMi D) 8 0 0) (b := stT D k m) (by omega) (by omega)
  obtain ⟨e1, e2⟩ := h
  unfold lsG1 lsG2
  rcases e2 with ⟨a1, a2⟩ | ⟨t, t1, t2, t3⟩
  · rw [if_neg, if_pos]
    · exact ⟨rfl, Or.inr ⟨_, hT, rfl, rfl⟩⟩
    · rw [a2, Int32.lt_iff_toInt_lt, eT, show (1000000 : Int32).toInt = 1000000 by decide]
      omega
    · intro z
      have := Int32.le_iff_toInt_le.mp z
      rw [nI_toInt (by omega), a1, show (-1 : Int32).toInt = -1 by decide] at this
      omega
  · have et := pk_sub_toInt (a := hrS D (kMi D) 8 0 0) (b := t) (by omega) (by omega)
    by_cases q : nI (stT D k m) ≤ c.1
    · rw [if_pos q, if_neg]
      · exact ⟨e1, Or.inr ⟨t, t1, t2, t3⟩⟩
      · intro z
        rw [t2] at q
        have q' := (nI_leI (by omega) (by omega)).mp q
        have := Int32.lt_iff_toInt_lt.mp z
        rw [t3, eT, et] at this
        omega
    · rw [if_neg q, if_pos]
      · exact ⟨rfl, Or.inr ⟨_, hT, rfl, rfl⟩⟩
      · rw [t3, Int32.lt_iff_toInt_lt, eT, et]
        have : ¬ stT D k m ≤ t := fun y => q (by rw [t2]; exact (nI_leI (by omega) (by omega)).mpr y)
        omega
theorem ls_fold (hW : WFD D) {m : Nat} : ∀ n k c c', LsR D c c' → LsR D (foS (lsG1 D m) n k c) (foS (lsG2 D m) n k c')
  | 0, _, _, _, h => h
  | n + 1, k, _, _, h => ls_fold hW n (k + 1) _ _ (ls_step hW h)
theorem least1 (h : Rel0 p d D M1 M2) (h0 : 0 < kMi D) {m : Nat} (hm : m < kMi D) : ∀ n M c k, k ≤ kNr D → kNr D < n + k → (KeepC p M1 M ∧ HK M p D) → ∃ M', (KeepC p M1 M' ∧ HK M' p D) ∧ f_X10_least_21 n M 0 (nI m) c.1 c.2 (nI k) = some (M', (foS (lsG1 D m) (kNr D - k) k c).2) := by
  have hb := h.ba
  refine memfold (F := fun n M c k => f_X10_least_21 n M 0 (nI m) c.1 c.2 k) (g := lsG1 D m) (R := fun M' c => some (M', c.2)) (fun n M c k hk hI => ?_) (fun n M c hI => ?_)
  · have hr := h.kc hI.1
    obtain ⟨M', t1, t2, t3⟩ := sIfStuck hr h0 hk hm
    refine ⟨M', ⟨hI.1.tr t2, Or.inl t3⟩, ?_⟩
    show s_X10_least_21 (f_X10_least_21 n) M 0 (nI m) c.1 c.2 (nI k) = _
    unfold s_X10_least_21 lsG1
    rw [oC_0, gd_t, hr.g1, bd_t, h.oP, gd_t, hr.cm.1.2.2.2.1, if_neg (nI_ge hk (by omega)), t1, bd_t]
    dsimp only
    rw [nI_1]
    by_cases q : nI (stT D k m) ≤ c.1
    · rw [if_pos q, if_pos q]
    · rw [if_neg q, if_neg q]
  · have hr := h.kc hI.1
    show s_X10_least_21 (f_X10_least_21 n) M 0 (nI m) c.1 c.2 (nI (kNr D)) = _
    unfold s_X10_least_21
    rw [oC_0, gd_t, hr.g1, bd_t, h.oP, gd_t, hr.cm.1.2.2.2.1, if_pos (nI_le (Nat.le_refl _) (by omega))]
theorem least2 (hR : RR M2) (hW : WFD D) (hm0 : RM M2 0 D) (h0 : 0 < kMi D) {m : Nat} (hm : m < kMi D) : ∀ n M c k, k ≤ kNr D → kNr D < n + k → KeepR M2 M → ∃ M', KeepR M2 M' ∧ f_X11_least_24 n M 0 (nI m) c.1 c.2 (nI k) = some (M', (foS (lsG2 D m) (kNr D - k) k c).1) := by
  have hn := hW.n
  refine memfold (F := fun n M c k => f_X11_least_24 n M 0 (nI m) c.1 c.2 k) (g := lsG2 D m) (R := fun M' c => some (M', c.1)) (fun n M c k hk hI => ?_) (fun n M c hI => ?_)
  · have hk2 : gI M 7 ((2 : Int32).toNatClampNeg) = nI (kNr D) := (hm0.keep hI).1.1.2.2.2.1
    obtain ⟨M', t1, t2⟩ := harmOf_eq hI.1 hW (hm0.keep hI) h0 hk hm
    refine ⟨M', hI.tr t2, ?_⟩
    show s_X11_least_24 (f_X11_least_24 n) M 0 (nI m) c.1 c.2 (nI k) = _
    unfold s_X11_least_24 lsG2
    rw [oR, gd_t, rr_17 hI.1, bd_t, aB_l (i := 2) zR_7 (by decide), gd_t, hk2, if_neg (nI_ge hk (by omega)), t1, bd_t]
    dsimp only
    rw [nI_1]
    by_cases q : nI (hrS D (kMi D) 8 0 0) - nI (stT D k m) < c.2
    · rw [if_pos q, if_pos q]
    · rw [if_neg q, if_neg q]
  · have hk2 : gI M 7 ((2 : Int32).toNatClampNeg) = nI (kNr D) := (hm0.keep hI).1.1.2.2.2.1
    show s_X11_least_24 (f_X11_least_24 n) M 0 (nI m) c.1 c.2 (nI (kNr D)) = _
    unfold s_X11_least_24
    rw [oR, gd_t, rr_17 hI.1, bd_t, aB_l (i := 2) zR_7 (by decide), gd_t, hk2, if_pos (nI_le (Nat.le_refl _) (by omega))]
theorem eq_least {M1 M2 : Mem} (h : Rel M1 M2) (b : Int32) : Same (f_X10_least M1 0 b) (f_X11_least M2 0 b) := by
  obtain ⟨p, d, D, h, hk⟩ := h
  have h' := h.r0
  have hb := h.ba
  unfold f_X10_least f_X11_least
  rw [oC_0, gd_t, h.g1, bd_t, h.oP, gd_t, oR, gd_t, nx_t, gM1 h, bd_t, gM2 h', bd_t]
  rcases ix_or b (kMi D) (by omega) with z | ⟨m, hm, rfl⟩
  · rw [if_neg z, if_pos rfl, if_pos rfl]
    exact same_no h' hk _
  have h0 : 0 < kMi D := by omega
  rw [if_pos (ix_in hm (by omega)), if_neg (show ¬ (1 : Int32) = 0 by decide), if_neg (show ¬ (1 : Int32) = 0 by decide)]
  obtain ⟨Mc, c1, c2⟩ := least1 h' h0 hm FU M1 (-1, -1) 0 (by omega) (by unfold FU; omega) ⟨KeepC.rf h.c, hk⟩
  obtain ⟨Md, d1, d2⟩ := least2 h'.r h.wf h'.rm h0 hm FU (sI M2 0 0 0) (-1, 1000000) 0 (by omega) (by unfold FU; omega) (KeepR.rf h'.r)
  have c2' : f_X10_least_21 FU M1 0 (nI m) (-1) (-1) 0 = _ := c2
  have d2' : f_X11_least_24 FU (sI M2 0 0 0) 0 (nI m) (-1) 1000000 0 = _ := d2
  have e := (ls_fold h.wf (m := m) (kNr D - 0) 0 (-1, -1) (-1, 1000000) ⟨rfl, Or.inl ⟨rfl, rfl⟩⟩).1
  rw [c2', d2', e]
  exact ⟨_, _, _, rfl, rfl, p, d, D, h'.keep c1.1 d1, c1.2⟩
end HA
