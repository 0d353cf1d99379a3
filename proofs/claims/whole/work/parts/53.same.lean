/-! ANSWERS ALIKE: loops as folds, guards of both sides -/
def frS (f : Nat → Bool) : Nat → Nat → Int32
  | 0, _ => -1
  | n + 1, k => if f k then nI k else frS f n (k + 1)
theorem first_loop {F : Nat → Int32 → Option (Mem × Int32)} {f : Nat → Bool} {N : Nat} {M : Mem} (step : ∀ n k, k < N → F (n + 1) (nI k) = if f k then some (M, nI k) else F n (nI (k + 1))) (stop : ∀ n, F (n + 1) (nI N) = some (M, -1)) : ∀ n k, k ≤ N → N < n + k → F n (nI k) = some (M, frS f (N - k) k) := by
  intro n
  induction n with
  | zero => intro k h1 h2; omega
  | succ n ih =>
    intro k h1 h2
    by_cases hk : k = N
    · subst hk
      rw [stop, Nat.sub_self]
      rfl
    · obtain ⟨d, hd⟩ : ∃ d, N - k = d + 1 := ⟨N - k - 1, by omega⟩
      rw [step n k (by omega), hd, frS]
      by_cases hf : f k = true
      · rw [if_pos hf, if_pos hf]
      · rw [if_neg hf, if_neg hf, ih (k + 1) (by omega) (by omega), show N - (k + 1) = d by omega]
def foS {σ : Type} (g : Nat → σ → σ) : Nat → Nat → σ → σ
  | 0, _, c => c
  | n + 1, k, c => foS g n (k + 1) (g k c)
theorem fold_loop {σ τ : Type} {F : Nat → σ → Int32 → τ} {g : Nat → σ → σ} {N : Nat} {R : σ → τ} (step : ∀ n c k, k < N → F (n + 1) c (nI k) = F n (g k c) (nI (k + 1))) (stop : ∀ n c, F (n + 1) c (nI N) = R c) : ∀ n c k, k ≤ N → N < n + k → F n c (nI k) = R (foS g (N - k) k c) := by
  intro n
  induction n with
  | zero => intro c k h1 h2; omega
  | succ n ih =>
    intro c k h1 h2
    by_cases hk : k = N
    · subst hk
      rw [stop, Nat.sub_self]
      rfl
    · obtain ⟨d, hd⟩ : ∃ d, N - k = d + 1 := ⟨N - k - 1, by omega⟩
      rw [step n c k (by omega), hd, foS, ih _ (k + 1) (by omega) (by omega), show N - (k + 1) = d by omega]
def Same (x y : Option (Mem × Int32)) : Prop := ∃ M1' M2' r, x = some (M1', r) ∧ y = some (M2', r) ∧ Rel M1' M2'
section GU
variable {p d : Nat} {D : MK} {M1 M2 : Mem}
theorem Rel0.mb (h : Rel0 p d D M1 M2) : p ∈ MB := (p_mb h.2.2.2.2.1).1
theorem Rel0.db (h : Rel0 p d D M1 M2) : d ∈ MB := (p_mb h.2.2.2.2.1).2
theorem Rel0.wf (h : Rel0 p d D M1 M2) : WFD D := h.2.2.2.2.2.1
theorem Rel0.st (h : Rel0 p d D M1 M2) : StkIn D := h.2.2.2.2.2.2.1
theorem Rel0.cm (h : Rel0 p d D M1 M2) : CM M1 p D := h.2.2.2.2.2.2.2.1
theorem Rel0.rm (h : Rel0 p d D M1 M2) : RM M2 0 D := h.2.2.2.2.2.2.2.2.1
theorem Rel0.c (h : Rel0 p d D M1 M2) : CR M1 := h.1
theorem Rel0.r (h : Rel0 p d D M1 M2) : RR M2 := h.2.1
theorem Rel0.g1 (h : Rel0 p d D M1 M2) : gR M1 0 1 = some p := h.2.2.1
theorem Rel0.g2 (h : Rel0 p d D M1 M2) : gR M1 0 2 = some d := h.2.2.2.1
theorem Rel0.oP (h : Rel0 p d D M1 M2) : oB shC p 4 = true := (mb_sh p h.mb).1
theorem Rel0.keepR {M2' : Mem} (h : Rel0 p d D M1 M2) (hk : KeepR M2 M2') : Rel0 p d D M1 M2' := h.keep (KeepC.rf h.1) hk
theorem Rel0.r0 (h : Rel0 p d D M1 M2) : Rel0 p d D M1 (sI M2 0 0 0) := h.keepR (kM0 h.r)
theorem Rel0.ba (h : Rel0 p d D M1 M2) : kMi D ≤ 60 ∧ kP D ≤ 12 ∧ kNr D ≤ 3 ∧ kNs D ≤ 8 ∧ kNb D ≤ 6 := ⟨h.wf.mi, h.wf.p, h.wf.n⟩
theorem gS1 (h : Rel0 p d D M1 M2) (a : Int32) : f_X4_hasStall M1 p a = some (if 0 ≤ a ∧ a < nI (kNs D) then 1 else 0) := hasStall_eq h.oP (by have := h.ba; omega) h.cm.1.2.2.2.2.1
theorem gS2 (h : Rel0 p d D M1 M2) (a : Int32) : f_X11_isStall M2 0 a = some (if 0 ≤ a ∧ a < nI (kNs D) then 1 else 0) := isStall_eq h.r (by have := h.ba; omega) h.rm.1.1.2.2.2.2.1
theorem gB1 (h : Rel0 p d D M1 M2) (a : Int32) : f_X4_hasBuyer M1 p a = some (if 0 ≤ a ∧ a < nI (kNb D) then 1 else 0) := hasBuyer_eq h.oP (by have := h.ba; omega) h.cm.1.2.2.2.2.2
theorem gB2 (h : Rel0 p d D M1 M2) (a : Int32) : f_X11_isBuyer M2 0 a = some (if 0 ≤ a ∧ a < nI (kNb D) then 1 else 0) := isBuyer_eq h.r (by have := h.ba; omega) h.rm.1.1.2.2.2.2.2
theorem gR1 (h : Rel0 p d D M1 M2) (a : Int32) : f_X4_hasRing M1 p a = some (if 0 ≤ a ∧ a < nI (kNr D) then 1 else 0) := hasRing_eq h.oP (by have := h.ba; omega) h.cm.1.2.2.2.1
theorem gR2 (h : Rel0 p d D M1 M2) (a : Int32) : f_X11_isRing M2 0 a = some (if 0 ≤ a ∧ a < nI (kNr D) then 1 else 0) := isRing_eq h.r (by have := h.ba; omega) h.rm.1.1.2.2.2.1
theorem gP1 (h : Rel0 p d D M1 M2) (a : Int32) : f_X4_hasPlace M1 p a = some (if 0 ≤ a ∧ a < nI (kP D) then 1 else 0) := hasPlace_eq h.oP (by have := h.ba; omega) h.cm.1.1
theorem gP2 (h : Rel0 p d D M1 M2) (a : Int32) : f_X11_isPlace M2 0 a = some (if 0 ≤ a ∧ a < nI (kP D) then 1 else 0) := isPlace_eq h.r (by have := h.ba; omega) h.rm.1.1.1
theorem gM1 (h : Rel0 p d D M1 M2) (a : Int32) : f_X4_hasMinute M1 p a = some (if 0 ≤ a ∧ a < nI (kMi D) then 1 else 0) := hasMinute_eq h.oP (by have := h.ba; omega) h.cm.1.2.1
theorem gM2 (h : Rel0 p d D M1 M2) (a : Int32) : f_X11_isMinute M2 0 a = some (if 0 ≤ a ∧ a < nI (kMi D) then 1 else 0) := isMinute_eq h.r (by have := h.ba; omega) h.rm.1.1.2.1
theorem gT1 (h : Rel0 p d D M1 M2) : f_X4_isTold M1 p = some (if 0 < kLn D then 1 else 0) := by
  have hl : kLn D ≤ 2000 := by rcases h.wf.1 with z | z <;> omega
  unfold f_X4_isTold
  rw [h.oP, gd_t, h.cm.1.2.2.1]
  by_cases e : 0 < kLn D
  · rw [if_neg (nI_nle e (by omega)), if_pos e]
  · rw [if_pos (show nI (kLn D) ≤ 0 from nI_le (b := 0) (by omega) (by decide)), if_neg e]
theorem gT2 (h : Rel0 p d D M1 M2) : f_X11_isMarket M2 0 = some (if 0 < kLn D then 1 else 0) := by
  have hl : kLn D ≤ 2000 := by rcases h.wf.1 with z | z <;> omega
  unfold f_X11_isMarket
  rw [oR, gd_t, rr_16 h.r, bd_t, aB_l (i := 0) zR_6 (by decide), gd_t, show gI M2 6 ((0 : Int32).toNatClampNeg) = nI (kLn D) from h.rm.1.1.2.2.1]
  by_cases e : 0 < kLn D
  · rw [if_neg (nI_nle e (by omega)), if_pos e]
  · rw [if_pos (show nI (kLn D) ≤ 0 from nI_le (b := 0) (by omega) (by decide)), if_neg e]
theorem same_no (h : Rel0 p d D M1 M2) (hk : HK M1 p D) (r : Int32) : Same (some (M1, r)) (some (M2, r)) := ⟨_, _, r, rfl, rfl, p, d, D, h, hk⟩
theorem told_p (h : Rel0 p d D M1 M2) (hl : 0 < kLn D) : 0 < kMi D ∧ 2 ≤ kP D := by rcases h.wf.1 with z | z <;> omega
theorem some_p (h : Rel0 p d D M1 M2) (hl : 0 < kNs D ∨ 0 < kNb D ∨ 0 < kNr D ∨ 0 < kP D) : 0 < kMi D ∧ 0 < kP D ∧ 0 < kLn D := by rcases h.wf.1 with z | z <;> omega
end GU
/-- both sides' hours, told -/
theorem bothH {p d : Nat} {D : MK} {M1 M2 : Mem} (h : Rel0 p d D M1 M2) (hk : HK M1 p D) (h0 : 0 < kMi D) : ∃ M1' M2', f_X10_toldHour M1 0 = some (M1', 84) ∧ f_X11_plainHour M2 0 = some M2' ∧ Rel0 p d D M1' M2' ∧ HourC M1' p D ∧ RE M2' D ∧ gI M2' 0 25 = -1 ∧ gI M2' 0 27 = -1 := by
  obtain ⟨M1', t1, t2, t3⟩ := told_eq h hk h0
  obtain ⟨M2', u1, u2, u3, u4⟩ := plainHour_eq h.r h.wf h.rm h0
  exact ⟨M1', M2', t1, u1, h.keep t2 u2, t3, u3, u4⟩
theorem bothT {p d : Nat} {D : MK} {M1 M2 : Mem} (h : Rel0 p d D M1 M2) (hk : HK M1 p D) (h0 : 0 < kMi D) : ∃ M1' M2', f_X10_toldHour M1 0 = some (M1', 84) ∧ f_X11_asTold M2 0 = some M2' ∧ Rel0 p d D M1' M2' ∧ HourC M1' p D ∧ RC M2' D := by
  obtain ⟨M1', t1, t2, t3⟩ := told_eq h hk h0
  obtain ⟨M2', u1, u2, u3⟩ := asTold_eq h.r h.wf h.rm
  exact ⟨M1', M2', t1, u1, h.keep t2 u2, t3, u3⟩
theorem same_at {p d : Nat} {D : MK} {M1 M2 : Mem} (h : Rel0 p d D M1 M2) (hk : HourC M1 p D) (r : Int32) : Same (some (M1, r)) (some (M2, r)) := ⟨_, _, r, rfl, rfl, p, d, D, h, Or.inr hk⟩
theorem same_of {x y : Option (Mem × Int32)} {M1 M2 : Mem} {r : Int32} {p d : Nat} {D : MK} (e1 : x = some (M1, r)) (e2 : y = some (M2, r)) (h : Rel0 p d D M1 M2) (hk : HourC M1 p D) : Same x y := ⟨_, _, r, e1, e2, p, d, D, h, Or.inr hk⟩
theorem eq_at {M1 M2 : Mem} (h : Rel M1 M2) (a b : Int32) : Same (f_X10_at M1 0 a b) (f_X11_at M2 0 a b) := by
  obtain ⟨p, d, D, h, hk⟩ := h
  have h' := h.r0
  have hb := h.ba
  unfold f_X10_at f_X11_at
  rw [oC_0, gd_t, h.g1, bd_t, h.oP, gd_t, gS1 h, bd_t, oR, gd_t, nx_t, gS2 h', bd_t]
  rcases ix_or a (kNs D) (by omega) with z | ⟨s, hs, rfl⟩
  · rw [if_neg z, if_pos rfl, if_pos rfl]
    exact same_no h' hk _
  rw [if_pos (ix_in hs (by omega)), if_neg (by decide), if_neg (by decide), gM1 h, bd_t, gM2 h', bd_t]
  rcases ix_or b (kMi D) (by omega) with z | ⟨m, hm, rfl⟩
  · rw [if_neg z, if_pos rfl, if_pos rfl]
    exact same_no h' hk _
  rw [if_pos (ix_in hm (by omega)), if_neg (by decide), if_neg (by decide)]
  obtain ⟨M1', M2', t1, u1, h2, t3, u3⟩ := bothT h' hk (by omega)
  rw [t1, bd_t, u1, bd_t]
  dsimp only
  rw [oC_84, gd_t, cr_84_0 h2.c, bd_t, oC_85, gd_t, cr_85_1 h2.c, bd_t, aB_t s zC_90 rfl (by omega) (by decide), gd_t, nI_clamp (by omega), cr_p h2.c (by omega), bd_t, aB_t m (zC_p s (by omega)).1 rfl (by omega) (by decide), gd_t, nI_clamp (by omega), t3.2.2.1 s hs m hm, placeOf_eq u3 hs hm, bd_t]
  exact same_at h2 t3 _
section CO
variable {p d : Nat} {D : MK} {M1 M2 : Mem}
/-- where a stall is, read out of the class's course -/
theorem pl_rd (h : Rel0 p d D M1 M2) (t : HourC M1 p D) {s m : Nat} (hs : s < kNs D) (hm : m < kMi D) : aB shC 90 9 (nI s) = true ∧ gR M1 90 (nI s).toNatClampNeg = some (91 + s) ∧ aB shC (91 + s) 0 (nI m) = true ∧ gI M1 (91 + s) (nI m).toNatClampNeg = nI (kPl D s m) := by
  have hb := h.ba
  refine ⟨aB_t s zC_90 rfl (by omega) (by decide), ?_, aB_t m (zC_p s (by omega)).1 rfl (by omega) (by decide), ?_⟩
  · rw [nI_clamp (by omega), cr_p h.c (by omega)]
  · rw [nI_clamp (by omega), t.2.2.1 s hs m hm]
theorem comes1 (h : Rel0 p d D M1 M2) (t : HourC M1 p D) {s q : Nat} (hs : s < kNs D) (hq : q < kP D) : ∀ n k, k ≤ kMi D → kMi D < n + k → f_X10_comes_48 n M1 0 (nI s) (nI q) 85 (nI k) = some (M1, frS (fun m => decide (kPl D s m = q)) (kMi D - k) k) := by
  have hb := h.ba
  apply first_loop
  · intro n k hk
    show s_X10_comes_48 (f_X10_comes_48 n) M1 0 (nI s) (nI q) 85 (nI k) = _
    obtain ⟨e1, e2, e3, e4⟩ := pl_rd h t hs hk
    have hpl := kPl_lt (D := D) (by omega) s k
    unfold s_X10_comes_48
    rw [oC_0, gd_t, h.g1, bd_t, h.oP, gd_t, h.cm.1.2.1, if_neg (nI_ge hk (by omega)), oC_85, gd_t, cr_85_1 h.c, bd_t, e1, gd_t, e2, bd_t, e3, gd_t, e4, nI_1]
    by_cases e : kPl D s k = q
    · rw [if_pos (by rw [e]), if_pos (by simp [e])]
    · rw [if_neg (fun z => e ((nI_eq (by omega) (by omega)).mp z)), if_neg (by simp [e])]
  · intro n
    show s_X10_comes_48 (f_X10_comes_48 n) M1 0 (nI s) (nI q) 85 (nI (kMi D)) = _
    unfold s_X10_comes_48
    rw [oC_0, gd_t, h.g1, bd_t, h.oP, gd_t, h.cm.1.2.1, if_pos (nI_le (Nat.le_refl _) (by omega))]
theorem comes2 (u : RC M2 D) {s q : Nat} (hs : s < kNs D) (hq : q < kP D) : ∀ n k, k ≤ kMi D → kMi D < n + k → f_X11_comes_39 n M2 0 (nI s) (nI q) (nI k) = some (M2, frS (fun m => decide (kPl D s m = q)) (kMi D - k) k) := by
  have hMi := u.2.1.mi
  have hP := u.2.1.p
  apply first_loop
  · intro n k hk
    show s_X11_comes_39 (f_X11_comes_39 n) M2 0 (nI s) (nI q) (nI k) = _
    have hpl := kPl_lt (D := D) (by omega) s k
    unfold s_X11_comes_39
    rw [oR, gd_t, rr_17 u.1, bd_t, aB_l (i := 1) zR_7 (by decide), gd_t, u.mi, if_neg (nI_ge hk (by omega)), placeOf_eq u hs hk, bd_t, nI_1]
    by_cases e : kPl D s k = q
    · rw [if_pos (by rw [e]), if_pos (by simp [e])]
    · rw [if_neg (fun z => e ((nI_eq (by omega) (by omega)).mp z)), if_neg (by simp [e])]
  · intro n
    show s_X11_comes_39 (f_X11_comes_39 n) M2 0 (nI s) (nI q) (nI (kMi D)) = _
    unfold s_X11_comes_39
    rw [oR, gd_t, rr_17 u.1, bd_t, aB_l (i := 1) zR_7 (by decide), gd_t, u.mi, if_pos (nI_le (Nat.le_refl _) (by omega))]
theorem face1 (h : Rel0 p d D M1 M2) (t : HourC M1 p D) {s o : Nat} (hs : s < kNs D) (ho : o < kNs D) : ∀ n k, k ≤ kMi D → kMi D < n + k → f_X10_face_35 n M1 0 (nI s) (nI o) 85 (nI k) = some (M1, frS (fun m => decide (kPl D s m = kPl D o m)) (kMi D - k) k) := by
  have hb := h.ba
  apply first_loop
  · intro n k hk
    show s_X10_face_35 (f_X10_face_35 n) M1 0 (nI s) (nI o) 85 (nI k) = _
    obtain ⟨e1, e2, e3, e4⟩ := pl_rd h t hs hk
    obtain ⟨g1, g2, g3, g4⟩ := pl_rd h t ho hk
    have hp := h.wf.p0 (Or.inl (by omega))
    have hpl := kPl_lt (D := D) hp s k
    have hpo := kPl_lt (D := D) hp o k
    unfold s_X10_face_35
    rw [oC_0, gd_t, h.g1, bd_t, h.oP, gd_t, h.cm.1.2.1, if_neg (nI_ge hk (by omega)), oC_85, gd_t, cr_85_1 h.c, bd_t, e1, gd_t, e2, bd_t, e3, gd_t, g1, gd_t, g2, bd_t, g3, gd_t, e4, g4, nI_1]
    by_cases e : kPl D s k = kPl D o k
    · rw [if_pos (by rw [e]), if_pos (by simp [e])]
    · rw [if_neg (fun z => e ((nI_eq (by omega) (by omega)).mp z)), if_neg (by simp [e])]
  · intro n
    show s_X10_face_35 (f_X10_face_35 n) M1 0 (nI s) (nI o) 85 (nI (kMi D)) = _
    unfold s_X10_face_35
    rw [oC_0, gd_t, h.g1, bd_t, h.oP, gd_t, h.cm.1.2.1, if_pos (nI_le (Nat.le_refl _) (by omega))]
theorem face2 (u : RC M2 D) {s o : Nat} (hs : s < kNs D) (ho : o < kNs D) : ∀ n k, k ≤ kMi D → kMi D < n + k → f_X11_face_44 n M2 0 (nI s) (nI o) (nI k) = some (M2, frS (fun m => decide (kPl D s m = kPl D o m)) (kMi D - k) k) := by
  have hMi := u.2.1.mi
  have hP := u.2.1.p
  apply first_loop
  · intro n k hk
    show s_X11_face_44 (f_X11_face_44 n) M2 0 (nI s) (nI o) (nI k) = _
    have hp := u.2.1.p0 (Or.inl (by omega))
    have hpl := kPl_lt (D := D) hp s k
    have hpo := kPl_lt (D := D) hp o k
    unfold s_X11_face_44
    rw [oR, gd_t, rr_17 u.1, bd_t, aB_l (i := 1) zR_7 (by decide), gd_t, u.mi, if_neg (nI_ge hk (by omega)), placeOf_eq u hs hk, bd_t, placeOf_eq u ho hk, bd_t, nI_1]
    by_cases e : kPl D s k = kPl D o k
    · rw [if_pos (by rw [e]), if_pos (by simp [e])]
    · rw [if_neg (fun z => e ((nI_eq (by omega) (by omega)).mp z)), if_neg (by simp [e])]
  · intro n
    show s_X11_face_44 (f_X11_face_44 n) M2 0 (nI s) (nI o) (nI (kMi D)) = _
    unfold s_X11_face_44
    rw [oR, gd_t, rr_17 u.1, bd_t, aB_l (i := 1) zR_7 (by decide), gd_t, u.mi, if_pos (nI_le (Nat.le_refl _) (by omega))]
def ofG (D : MK) (s o : Nat) (k : Nat) (c : Int32) : Int32 := if kPl D s k = kPl D o k then c + 1 else c
theorem often1 (h : Rel0 p d D M1 M2) (t : HourC M1 p D) {s o : Nat} (hs : s < kNs D) (ho : o < kNs D) : ∀ n c k, k ≤ kMi D → kMi D < n + k → f_X10_often_26 n M1 0 (nI s) (nI o) 85 c (nI k) = some (M1, foS (ofG D s o) (kMi D - k) k c) := by
  have hb := h.ba
  apply fold_loop (R := fun c => some (M1, c))
  · intro n c k hk
    show s_X10_often_26 (f_X10_often_26 n) M1 0 (nI s) (nI o) 85 c (nI k) = _
    obtain ⟨e1, e2, e3, e4⟩ := pl_rd h t hs hk
    obtain ⟨g1, g2, g3, g4⟩ := pl_rd h t ho hk
    have hp := h.wf.p0 (Or.inl (by omega))
    have hpl := kPl_lt (D := D) hp s k
    have hpo := kPl_lt (D := D) hp o k
    unfold s_X10_often_26 ofG
    rw [oC_0, gd_t, h.g1, bd_t, h.oP, gd_t, h.cm.1.2.1, if_neg (nI_ge hk (by omega)), oC_85, gd_t, cr_85_1 h.c, bd_t, e1, gd_t, e2, bd_t, e3, gd_t, g1, gd_t, g2, bd_t, g3, gd_t, e4, g4, nI_1]
    by_cases e : kPl D s k = kPl D o k
    · rw [if_pos (by rw [e]), if_pos e]
    · rw [if_neg (fun z => e ((nI_eq (by omega) (by omega)).mp z)), if_neg e]
  · intro n c
    show s_X10_often_26 (f_X10_often_26 n) M1 0 (nI s) (nI o) 85 c (nI (kMi D)) = _
    unfold s_X10_often_26
    rw [oC_0, gd_t, h.g1, bd_t, h.oP, gd_t, h.cm.1.2.1, if_pos (nI_le (Nat.le_refl _) (by omega))]
theorem often2 (u : RC M2 D) {s o : Nat} (hs : s < kNs D) (ho : o < kNs D) : ∀ n c k, k ≤ kMi D → kMi D < n + k → f_X11_often_38 n M2 0 (nI s) (nI o) c (nI k) = some (M2, foS (ofG D s o) (kMi D - k) k c) := by
  have hMi := u.2.1.mi
  have hP := u.2.1.p
  apply fold_loop (R := fun c => some (M2, c))
  · intro n c k hk
    show s_X11_often_38 (f_X11_often_38 n) M2 0 (nI s) (nI o) c (nI k) = _
    have hp := u.2.1.p0 (Or.inl (by omega))
    have hpl := kPl_lt (D := D) hp s k
    have hpo := kPl_lt (D := D) hp o k
    unfold s_X11_often_38 ofG
    rw [oR, gd_t, rr_17 u.1, bd_t, aB_l (i := 1) zR_7 (by decide), gd_t, u.mi, if_neg (nI_ge hk (by omega)), placeOf_eq u hs hk, bd_t, placeOf_eq u ho hk, bd_t, nI_1]
    by_cases e : kPl D s k = kPl D o k
    · rw [if_pos (by rw [e]), if_pos e]
    · rw [if_neg (fun z => e ((nI_eq (by omega) (by omega)).mp z)), if_neg e, Int32.add_zero]
  · intro n c
    show s_X11_often_38 (f_X11_often_38 n) M2 0 (nI s) (nI o) c (nI (kMi D)) = _
    unfold s_X11_often_38
    rw [oR, gd_t, rr_17 u.1, bd_t, aB_l (i := 1) zR_7 (by decide), gd_t, u.mi, if_pos (nI_le (Nat.le_refl _) (by omega))]
end CO
