/-! ANSWERS ALIKE: where stalls are -/
theorem eq_comes {M1 M2 : Mem} (h : Rel M1 M2) (a q b : Int32) : Same (f_X10_comes M1 0 a q b) (f_X11_comes M2 0 a q b) := by
  obtain ⟨p, d, D, h, hk⟩ := h
  have h' := h.r0
  have hb := h.ba
  unfold f_X10_comes f_X11_comes
  rw [oC_0, gd_t, h.g1, bd_t, h.oP, gd_t, oR, gd_t, nx_t]
  rw [gS1 h, bd_t, gS2 h', bd_t]
  rcases ix_or a (kNs D) (by omega) with z | ⟨s, hs, rfl⟩
  · rw [if_neg z, if_pos rfl, if_pos rfl]
    exact same_no h' hk _
  rw [if_pos (ix_in hs (by omega)), if_neg (show ¬ (1 : Int32) = 0 by decide), if_neg (show ¬ (1 : Int32) = 0 by decide)]
  rw [gP1 h, bd_t, gP2 h', bd_t]
  rcases ix_or q (kP D) (by omega) with z | ⟨q, hq, rfl⟩
  · rw [if_neg z, if_pos rfl, if_pos rfl]
    exact same_no h' hk _
  rw [if_pos (ix_in hq (by omega)), if_neg (show ¬ (1 : Int32) = 0 by decide), if_neg (show ¬ (1 : Int32) = 0 by decide)]
  rw [gM1 h, bd_t, gM2 h', bd_t]
  rcases ix_or b (kMi D) (by omega) with z | ⟨m, hm, rfl⟩
  · rw [if_neg z, if_pos rfl, if_pos rfl]
    exact same_no h' hk _
  rw [if_pos (ix_in hm (by omega)), if_neg (show ¬ (1 : Int32) = 0 by decide), if_neg (show ¬ (1 : Int32) = 0 by decide)]
  obtain ⟨M1', M2', t1, u1, h2, t3, u3⟩ := bothT h' hk (by omega)
  rw [t1, bd_t, u1, bd_t]
  dsimp only
  rw [oC_84, gd_t, cr_84_0 h2.c, bd_t]
  exact same_of (comes1 h2 t3 hs hq FU m (by omega) (by unfold FU; omega)) (comes2 u3 hs hq FU m (by omega) (by unfold FU; omega)) h2 t3
theorem areTwo_eq {p d : Nat} {D : MK} {M1 M2 : Mem} (h : Rel0 p d D M1 M2) (a b : Int32) : f_X10_areTwoStalls M1 0 a b = some (if (0 ≤ a ∧ a < nI (kNs D)) ∧ (0 ≤ b ∧ b < nI (kNs D)) ∧ ¬ a = b then 1 else 0) := by
  unfold f_X10_areTwoStalls
  rw [oC_0, gd_t, h.g1, bd_t, h.oP, gd_t, gS1 h, bd_t, gS1 h, bd_t]
  by_cases c1 : 0 ≤ a ∧ a < nI (kNs D)
  · rw [if_pos c1, if_neg (by decide)]
    by_cases c2 : 0 ≤ b ∧ b < nI (kNs D)
    · rw [if_pos c2, if_neg (by decide)]
      by_cases c3 : a = b
      · rw [if_pos c3, if_neg (fun z => z.2.2 c3)]
      · rw [if_neg c3, if_pos ⟨c1, c2, c3⟩]
    · rw [if_neg c2, if_pos rfl, if_neg (fun z => c2 z.2.1)]
  · rw [if_neg c1, if_pos rfl, if_neg (fun z => c1 z.1)]
theorem eq_face {M1 M2 : Mem} (h : Rel M1 M2) (a b c : Int32) : Same (f_X10_face M1 0 a b c) (f_X11_face M2 0 a b c) := by
  obtain ⟨p, d, D, h, hk⟩ := h
  have h' := h.r0
  have hb := h.ba
  unfold f_X10_face f_X11_face
  rw [oC_0, gd_t, oR, gd_t, nx_t]
  have hA := areTwo_eq h a b
  have hS := gS2 h' a
  have hO := gS2 h' b
  rcases ix_or a (kNs D) (by omega) with z | ⟨s, hs, rfl⟩
  · rw [if_neg (fun y => z y.1)] at hA
    rw [if_neg z] at hS
    rw [hA, bd_t, if_pos rfl, hS, bd_t, if_pos rfl]
    exact same_no h' hk _
  rw [if_pos (ix_in hs (by omega))] at hS
  rw [hS, bd_t, if_neg (show ¬ (1 : Int32) = 0 by decide), hO, bd_t]
  rcases ix_or b (kNs D) (by omega) with z | ⟨o, ho, rfl⟩
  · rw [if_neg (fun y => z y.2.1)] at hA
    rw [hA, bd_t, if_pos rfl, if_neg z, if_pos rfl]
    exact same_no h' hk _
  rw [if_pos (ix_in ho (by omega)), if_neg (show ¬ (1 : Int32) = 0 by decide)]
  by_cases e : nI s = nI o
  · rw [if_neg (fun y => y.2.2 e)] at hA
    rw [hA, bd_t, if_pos rfl, if_pos e]
    exact same_no h' hk _
  rw [if_pos ⟨ix_in hs (by omega), ix_in ho (by omega), e⟩] at hA
  rw [hA, bd_t, if_neg (show ¬ (1 : Int32) = 0 by decide), if_neg e]
  rw [h.g1, bd_t, h.oP, gd_t, gM1 h, bd_t, gM2 h', bd_t]
  rcases ix_or c (kMi D) (by omega) with z | ⟨m, hm, rfl⟩
  · rw [if_neg z, if_pos rfl, if_pos rfl]
    exact same_no h' hk _
  rw [if_pos (ix_in hm (by omega)), if_neg (by decide), if_neg (by decide)]
  obtain ⟨M1', M2', t1, u1, h2, t3, u3⟩ := bothT h' hk (by omega)
  rw [t1, bd_t, u1, bd_t]
  dsimp only
  rw [oC_84, gd_t, cr_84_0 h2.c, bd_t]
  exact same_of (face1 h2 t3 hs ho FU m (by omega) (by unfold FU; omega)) (face2 u3 hs ho FU m (by omega) (by unfold FU; omega)) h2 t3
theorem eq_often {M1 M2 : Mem} (h : Rel M1 M2) (a b : Int32) : Same (f_X10_often M1 0 a b) (f_X11_often M2 0 a b) := by
  obtain ⟨p, d, D, h, hk⟩ := h
  have h' := h.r0
  have hb := h.ba
  unfold f_X10_often f_X11_often
  rw [oC_0, gd_t, oR, gd_t, nx_t]
  have hA := areTwo_eq h a b
  have hS := gS2 h' a
  have hO := gS2 h' b
  rcases ix_or a (kNs D) (by omega) with z | ⟨s, hs, rfl⟩
  · rw [if_neg (fun y => z y.1)] at hA
    rw [if_neg z] at hS
    rw [hA, bd_t, if_pos rfl, hS, bd_t, if_pos rfl]
    exact same_no h' hk _
  rw [if_pos (ix_in hs (by omega))] at hS
  rw [hS, bd_t, if_neg (show ¬ (1 : Int32) = 0 by decide), hO, bd_t]
  rcases ix_or b (kNs D) (by omega) with z | ⟨o, ho, rfl⟩
  · rw [if_neg (fun y => z y.2.1)] at hA
    rw [hA, bd_t, if_pos rfl, if_neg z, if_pos rfl]
    exact same_no h' hk _
  rw [if_pos (ix_in ho (by omega)), if_neg (show ¬ (1 : Int32) = 0 by decide)]
  by_cases e : nI s = nI o
  · rw [if_neg (fun y => y.2.2 e)] at hA
    rw [hA, bd_t, if_pos rfl, if_pos e]
    exact same_no h' hk _
  rw [if_pos ⟨ix_in hs (by omega), ix_in ho (by omega), e⟩] at hA
  rw [hA, bd_t, if_neg (show ¬ (1 : Int32) = 0 by decide), if_neg e]
  have h0 := some_p h (Or.inl (by omega))
  obtain ⟨M1', M2', t1, u1, h2, t3, u3⟩ := bothT h' hk (by omega)
  rw [t1, bd_t, u1, bd_t]
  dsimp only
  rw [oC_84, gd_t, cr_84_0 h2.c, bd_t]
  exact same_of (often1 h2 t3 hs ho FU 0 0 (by omega) (by unfold FU; omega)) (often2 u3 hs ho FU 0 0 (by omega) (by unfold FU; omega)) h2 t3
section CO
variable {p d : Nat} {D : MK} {M1 M2 : Mem}
theorem st_rd (h : Rel0 p d D M1 M2) {s : Nat} (hs : s < kNs D) : gR M1 p 7 = some (p + 2) ∧ aB shC (p + 2) 5 (nI s) = true ∧ gR M1 (p + 2) (nI s).toNatClampNeg = some (p + 7 + s) ∧ oB shC (p + 7 + s) 9 = true ∧ ∀ j, j < 7 → gI M1 (p + 7 + s) j = nI (kSl D s j) := by
  have hb := h.ba
  have hms := mb_sh p h.mb
  refine ⟨mk_7 h.c h.mb, aB_t s hms.2.2.1 rfl (by omega) (by decide), ?_, hms.2.2.2.2.2.1 s (by omega), h.cm.2.2.1 s hs⟩
  rw [nI_clamp (by omega), mk_s h.c h.mb (by omega)]
theorem by_rd (h : Rel0 p d D M1 M2) {b : Nat} (hs : b < kNb D) : gR M1 p 8 = some (p + 3) ∧ aB shC (p + 3) 6 (nI b) = true ∧ gR M1 (p + 3) (nI b).toNatClampNeg = some (p + 15 + 4 * b) ∧ oB shC (p + 15 + 4 * b) 1 = true ∧ ∀ j, j < 4 → gI M1 (p + 15 + 4 * b) j = nI (kBy D b j) := by
  have hb := h.ba
  have hms := mb_sh p h.mb
  refine ⟨mk_8 h.c h.mb, aB_t b hms.2.2.2.1 rfl (by omega) (by decide), ?_, (hms.2.2.2.2.2.2 b (by omega)).1, (h.cm.2.2.2 b hs).1⟩
  rw [nI_clamp (by omega), mk_b h.c h.mb (by omega)]
theorem rg_rd (h : Rel0 p d D M1 M2) {r : Nat} (hr : r < kNr D) : gR M1 p 6 = some (p + 1) ∧ aB shC (p + 1) 4 (nI r) = true ∧ gR M1 (p + 1) (nI r).toNatClampNeg = some (p + 4 + r) ∧ oB shC (p + 4 + r) 7 = true := by
  have hb := h.ba
  have hms := mb_sh p h.mb
  refine ⟨mk_6 h.c h.mb, aB_t r hms.2.1 rfl (by omega) (by decide), ?_, hms.2.2.2.2.1 r (by omega)⟩
  rw [nI_clamp (by omega), mk_r h.c h.mb (by omega)]
theorem there1 (h : Rel0 p d D M1 M2) (t : HourC M1 p D) {r q m : Nat} (hr : r < kNr D) (hq : q < kP D) (hm : m < kMi D) : ∀ n k, k ≤ kNs D → kNs D < n + k → f_X10_there_48 n M1 0 (nI r) (nI q) (nI m) 85 (nI k) = some (M1, frS (fun s => decide (kSl D s 0 = r) && decide (kPl D s m = q)) (kNs D - k) k) := by
  have hb := h.ba
  apply first_loop
  · intro n k hk
    show s_X10_there_48 (f_X10_there_48 n) M1 0 (nI r) (nI q) (nI m) 85 (nI k) = _
    obtain ⟨e1, e2, e3, e4⟩ := pl_rd h t hk hm
    obtain ⟨g1, g2, g3, g4, g5⟩ := st_rd h hk
    have hpl := kPl_lt (D := D) (by omega) k m
    have hsl := h.wf.2.2.2.2.2.1 k hk
    unfold s_X10_there_48
    rw [oC_0, gd_t, h.g1, bd_t, h.oP, gd_t, h.cm.1.2.2.2.2.1, if_neg (nI_ge hk (by omega)), g1, bd_t, g2, gd_t, g3, bd_t, g4, gd_t, g5 0 (by decide), oC_85, gd_t, cr_85_1 h.c, bd_t, e1, gd_t, e2, bd_t, e3, gd_t, e4, nI_1]
    by_cases e : kSl D k 0 = r
    · rw [if_pos (by rw [e])]
      by_cases e' : kPl D k m = q
      · rw [if_pos (by rw [e']), if_pos (by simp [e, e'])]
      · rw [if_neg (fun z => e' ((nI_eq (by omega) (by omega)).mp z)), if_neg (by simp [e'])]
    · rw [if_neg (fun z => e ((nI_eq (by omega) (by omega)).mp z)), if_neg (by simp [e])]
  · intro n
    show s_X10_there_48 (f_X10_there_48 n) M1 0 (nI r) (nI q) (nI m) 85 (nI (kNs D)) = _
    unfold s_X10_there_48
    rw [oC_0, gd_t, h.g1, bd_t, h.oP, gd_t, h.cm.1.2.2.2.2.1, if_pos (nI_le (Nat.le_refl _) (by omega))]
theorem there2 (u : RC M2 D) {r q m : Nat} (hr : r < kNr D) (hq : q < kP D) (hm : m < kMi D) : ∀ n k, k ≤ kNs D → kNs D < n + k → f_X11_there_39 n M2 0 (nI r) (nI q) (nI m) (nI k) = some (M2, frS (fun s => decide (kSl D s 0 = r) && decide (kPl D s m = q)) (kNs D - k) k) := by
  have hb := u.2.1.n
  have hP := u.2.1.p
  apply first_loop
  · intro n k hk
    show s_X11_there_39 (f_X11_there_39 n) M2 0 (nI r) (nI q) (nI m) (nI k) = _
    have hpl := kPl_lt (D := D) (by omega) k m
    have hsl := u.2.1.2.2.2.2.2.1 k hk
    unfold s_X11_there_39
    rw [oR, gd_t, rr_17 u.1, bd_t, aB_l (i := 3) zR_7 (by decide), gd_t, u.ns, if_neg (nI_ge hk (by omega)), u.of hk (j := 0) (by decide) (y := 0) rfl, bd_t, placeOf_eq u hk hm, bd_t, nI_1]
    by_cases e : kSl D k 0 = r
    · rw [if_pos (by rw [e])]
      by_cases e' : kPl D k m = q
      · rw [if_pos (by rw [e']), if_pos (by simp [e, e'])]
      · rw [if_neg (fun z => e' ((nI_eq (by omega) (by omega)).mp z)), if_neg (by simp [e'])]
    · rw [if_neg (fun z => e ((nI_eq (by omega) (by omega)).mp z)), if_neg (by simp [e])]
  · intro n
    show s_X11_there_39 (f_X11_there_39 n) M2 0 (nI r) (nI q) (nI m) (nI (kNs D)) = _
    unfold s_X11_there_39
    rw [oR, gd_t, rr_17 u.1, bd_t, aB_l (i := 3) zR_7 (by decide), gd_t, u.ns, if_pos (nI_le (Nat.le_refl _) (by omega))]
end CO
theorem eq_there {M1 M2 : Mem} (h : Rel M1 M2) (a q b : Int32) : Same (f_X10_there M1 0 a q b) (f_X11_there M2 0 a q b) := by
  obtain ⟨p, d, D, h, hk⟩ := h
  have h' := h.r0
  have hb := h.ba
  unfold f_X10_there f_X11_there
  rw [oC_0, gd_t, h.g1, bd_t, h.oP, gd_t, oR, gd_t, nx_t]
  rw [gR1 h, bd_t, gR2 h', bd_t]
  rcases ix_or a (kNr D) (by omega) with z | ⟨r, hr, rfl⟩
  · rw [if_neg z, if_pos rfl, if_pos rfl]
    exact same_no h' hk _
  rw [if_pos (ix_in hr (by omega)), if_neg (show ¬ (1 : Int32) = 0 by decide), if_neg (show ¬ (1 : Int32) = 0 by decide)]
  rw [gP1 h, bd_t, gP2 h', bd_t]
  rcases ix_or q (kP D) (by omega) with z | ⟨q, hq, rfl⟩
  · rw [if_neg z, if_pos rfl, if_pos rfl]
    exact same_no h' hk _
  rw [if_pos (ix_in hq (by omega)), if_neg (show ¬ (1 : Int32) = 0 by decide), if_neg (show ¬ (1 : Int32) = 0 by decide)]
  rw [gM1 h, bd_t, gM2 h', bd_t]
  rcases ix_or b (kMi D) (by omega) with z | ⟨m, hm, rfl⟩
  · rw [if_neg z, if_pos rfl, if_pos rfl]
    exact same_no h' hk _
  rw [if_pos (ix_in hm (by omega)), if_neg (show ¬ (1 : Int32) = 0 by decide), if_neg (show ¬ (1 : Int32) = 0 by decide)]
  obtain ⟨M1', M2', t1, u1, h2, t3, u3⟩ := bothT h' hk (by omega)
  rw [t1, bd_t, u1, bd_t]
  dsimp only
  rw [oC_84, gd_t, cr_84_0 h2.c, bd_t]
  exact same_of (there1 h2 t3 hr hq hm FU 0 (by omega) (by unfold FU; omega)) (there2 u3 hr hq hm FU 0 (by omega) (by unfold FU; omega)) h2 t3
def psG (D : MK) (s : Nat) (k : Nat) (c : Int32) : Int32 := c ||| nI (bzN D (kPl D s k) (kNb D))
section CO
variable {p d : Nat} {D : MK} {M1 M2 : Mem}
theorem passed1 (h : Rel0 p d D M1 M2) (t : HourC M1 p D) {s l : Nat} (hs : s < kNs D) (hl : l < kMi D) : ∀ n c k, k ≤ l + 1 → l + 1 < n + k → f_X10_passed_56 n M1 0 (nI s) (nI l) 85 c (nI k) = some (M1, foS (psG D s) (l + 1 - k) k c) := by
  have hb := h.ba
  apply fold_loop (R := fun c => some (M1, c))
  · intro n c k hk
    show s_X10_passed_56 (f_X10_passed_56 n) M1 0 (nI s) (nI l) 85 c (nI k) = _
    obtain ⟨e1, e2, e3, e4⟩ := pl_rd h t hs (m := k) (by omega)
    have hpl := kPl_lt (D := D) (h.wf.p0 (Or.inl (by omega))) s k
    unfold s_X10_passed_56 psG
    rw [if_neg (nI_nlt (by omega) (by omega)), oC_0, gd_t, h.g1, bd_t, oC_85, gd_t, cr_85_1 h.c, bd_t, e1, gd_t, e2, bd_t, e3, gd_t, h.oP, gd_t, e4, buyersAt_eq h.mb h.c h.wf h.cm (by omega), bd_t, nI_1]
  · intro n c
    show s_X10_passed_56 (f_X10_passed_56 n) M1 0 (nI s) (nI l) 85 c (nI (l + 1)) = _
    unfold s_X10_passed_56
    rw [if_pos (nI_lt (by omega) (by omega))]
theorem passed62 (u : RC M2 D) {s m : Nat} (hs : s < kNs D) (hm : m < kMi D) (x3 c : Int32) (k53 : Mem → Nat → Int32 → Int32 → Int32 → Int32 → Option (Mem × Int32)) : ∀ n k, k ≤ kNb D → kNb D < n + k → f_X11_passed_62 k53 n M2 0 (nI s) x3 (c ||| nI (bzN D (kPl D s m) k)) (nI m) (nI k) = k53 M2 0 (nI s) x3 (psG D s m c) (nI (m + 1)) := by
  have hb := u.2.1.n
  have hP := u.2.1.p
  have hpl := kPl_lt (D := D) (u.2.1.p0 (Or.inl (by omega))) s m
  intro n
  induction n with
  | zero => intro k h1 h2; omega
  | succ n ih =>
    intro k h1 h2
    show s_X11_passed_62 k53 (f_X11_passed_62 k53 n) M2 0 (nI s) x3 _ (nI m) (nI k) = _
    unfold s_X11_passed_62
    rw [oR, gd_t, rr_17 u.1, bd_t, aB_l (i := 4) zR_7 (by decide), gd_t, u.nb]
    by_cases hk : k = kNb D
    · subst hk
      rw [if_pos (nI_le (Nat.le_refl _) (by omega)), nI_1]
      rfl
    have hkb : k < kNb D := by omega
    have hby := u.2.1.2.2.2.2.2.2 k hkb
    rw [if_neg (nI_ge (by omega) (by omega)), rr_20 u.1, bd_t, show (4 : Int32) * nI k = nI (4 * k) by rw [show (4 : Int32) = nI 4 from rfl, pk_mul], aB_t (4 * k) zR_10 rfl (by omega) (by decide), gd_t, placeOf_eq u hs hm, bd_t, nI_clamp (by omega), show gI M2 10 (4 * k) = nI (kBy D k 0) from u.by hkb (j := 0) (by decide), nI_1]
    have := ih (k + 1) (by omega) (by omega)
    rw [show bzN D (kPl D s m) (k + 1) = bzN D (kPl D s m) k + (if kBy D k 0 = kPl D s m then 2 ^ k else 0) from rfl] at this
    by_cases e : kBy D k 0 = kPl D s m
    · rw [if_pos (by rw [e]), Int32.or_assoc, or_bit k (by omega) _ (bz_lt D _ k)]
      rw [if_pos e] at this
      exact this
    · rw [if_neg (fun z => e ((nI_eq (by omega) (by omega)).mp z)), Int32.or_zero]
      rw [if_neg e, Nat.add_zero] at this
      exact this
theorem passed2 (u : RC M2 D) {s l : Nat} (hs : s < kNs D) (hl : l < kMi D) : ∀ n c k, k ≤ l + 1 → l + 1 < n + k → f_X11_passed_53 n M2 0 (nI s) (nI l) c (nI k) = some (M2, foS (psG D s) (l + 1 - k) k c) := by
  have hMi := u.2.1.mi
  have hb := u.2.1.n
  apply fold_loop (R := fun c => some (M2, c))
  · intro n c k hk
    show s_X11_passed_53 (f_X11_passed_53 n) M2 0 (nI s) (nI l) c (nI k) = _
    unfold s_X11_passed_53
    rw [if_neg (nI_nlt (by omega) (by omega))]
    have := passed62 u hs (m := k) (by omega) (nI l) c (f_X11_passed_53 n) FU 0 (by omega) (by unfold FU; omega)
    rw [show bzN D (kPl D s k) 0 = 0 from rfl, show nI 0 = (0 : Int32) from rfl, Int32.or_zero] at this
    exact this
  · intro n c
    show s_X11_passed_53 (f_X11_passed_53 n) M2 0 (nI s) (nI l) c (nI (l + 1)) = _
    unfold s_X11_passed_53
    rw [if_pos (nI_lt (by omega) (by omega))]
end CO
theorem eq_passed {M1 M2 : Mem} (h : Rel M1 M2) (a b c : Int32) : Same (f_X10_passed M1 0 a b c) (f_X11_passed M2 0 a b c) := by
  obtain ⟨p, d, D, h, hk⟩ := h
  have h' := h.r0
  have hb := h.ba
  unfold f_X10_passed f_X11_passed
  rw [oC_0, gd_t, h.g1, bd_t, h.oP, gd_t, oR, gd_t, nx_t]
  rw [gS1 h, bd_t, gS2 h', bd_t]
  rcases ix_or a (kNs D) (by omega) with z | ⟨s, hs, rfl⟩
  · rw [if_neg z, if_pos rfl, if_pos rfl]
    exact same_no h' hk _
  rw [if_pos (ix_in hs (by omega)), if_neg (show ¬ (1 : Int32) = 0 by decide), if_neg (show ¬ (1 : Int32) = 0 by decide)]
  rw [gM1 h, bd_t, gM2 h', bd_t]
  rcases ix_or b (kMi D) (by omega) with z | ⟨m, hm, rfl⟩
  · rw [if_neg z, if_pos rfl, if_pos rfl]
    exact same_no h' hk _
  rw [if_pos (ix_in hm (by omega)), if_neg (show ¬ (1 : Int32) = 0 by decide), if_neg (show ¬ (1 : Int32) = 0 by decide)]
  rw [gM1 h, bd_t, rr_17 h'.r, bd_t, aB_l (i := 1) zR_7 (by decide), gd_t, nx_t, show gI (sI M2 0 0 0) 7 ((1 : Int32).toNatClampNeg) = nI (kMi D) from h'.rm.1.1.2.1, in32 _ c (nI m) (nI (kMi D) - 1) rfl rfl, bd_t]
  rcases ix_or c (kMi D) (by omega) with z | ⟨l, hl, rfl⟩
  · have z2 : ¬ (nI m ≤ c ∧ c ≤ nI (kMi D) - 1) := fun y => z ⟨Int32.le_trans (nI_pos' (by omega)) y.1, (le_pred (by omega)).mp y.2⟩
    rw [if_neg z, if_pos rfl, if_neg z2, if_pos rfl]
    exact same_no h' hk _
  rw [if_pos (ix_in hl (by omega)), if_neg (show ¬ (1 : Int32) = 0 by decide)]
  by_cases e : m ≤ l
  · rw [if_pos (nI_le e (by omega)), if_pos (show nI m ≤ nI l ∧ nI l ≤ nI (kMi D) - 1 from ⟨nI_le e (by omega), (le_pred (by omega)).mpr (nI_lt hl (by omega))⟩), if_neg (show ¬ (1 : Int32) = 0 by decide)]
    obtain ⟨M1', M2', t1, u1, h2, t3, u3⟩ := bothT h' hk (by omega)
    rw [t1, bd_t, u1, bd_t]
    dsimp only
    rw [oC_84, gd_t, cr_84_0 h2.c, bd_t]
    exact same_of (passed1 h2 t3 hs hl FU 0 m (by omega) (by unfold FU; omega)) (passed2 u3 hs hl FU 0 m (by omega) (by unfold FU; omega)) h2 t3
  · rw [if_neg (nI_ge (by omega) (by omega)), if_neg (show ¬ (nI m ≤ nI l ∧ nI l ≤ nI (kMi D) - 1) from fun y => nI_ge (a := l) (b := m) (by omega) (by omega) y.1), if_pos rfl]
    exact same_no h' hk _
