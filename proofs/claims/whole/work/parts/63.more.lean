/-! AGAIN, JUDGE, THEFT, COUNT -/
def frW (f : Nat → Bool) (e : Int32) : Nat → Nat → Int32
  | 0, _ => e
  | n + 1, k => if f k then nI k else frW f e n (k + 1)
theorem first_loopW {τ : Type} {F : Nat → Int32 → τ} {f : Nat → Bool} {N : Nat} {e : Int32} {R : Int32 → τ} (step : ∀ n k, k < N → F (n + 1) (nI k) = if f k then R (nI k) else F n (nI (k + 1))) (stop : ∀ n, F (n + 1) (nI N) = R e) : ∀ n k, k ≤ N → N < n + k → F n (nI k) = R (frW f e (N - k) k) := by
  intro n
  induction n with
  | zero => intro k h1 h2; omega
  | succ n ih =>
    intro k h1 h2
    by_cases hk : k = N
    · subst hk
      rw [stop, Nat.sub_self]
      rfl
    · obtain ⟨d, hd⟩ : ∃ d, N - k = d + 1 := ⟨N - k - 1, by omega⟩
      rw [step n k (by omega), hd, frW]
      by_cases hf : f k = true
      · rw [if_pos hf, if_pos hf]
      · rw [if_neg hf, if_neg hf, ih (k + 1) (by omega) (by omega), show N - (k + 1) = d by omega]
def allB (g : Nat → Bool) : Nat → Nat → Bool
  | 0, _ => true
  | n + 1, k => g k && allB g n (k + 1)
theorem allF {F : Nat → Int32 → Option Int32} {g : Nat → Bool} {N : Nat} (step : ∀ n k, k < N → F (n + 1) (nI k) = if g k then F n (nI (k + 1)) else some 0) (stop : ∀ n, F (n + 1) (nI N) = some 1) : ∀ n k, k ≤ N → N < n + k → F n (nI k) = some (if allB g (N - k) k then 1 else 0) := by
  intro n
  induction n with
  | zero => intro k h1 h2; omega
  | succ n ih =>
    intro k h1 h2
    by_cases hk : k = N
    · subst hk
      rw [stop, Nat.sub_self]
      rfl
    · obtain ⟨d, hd⟩ : ∃ d, N - k = d + 1 := ⟨N - k - 1, by omega⟩
      rw [step n k (by omega), hd, allB]
      by_cases hf : g k = true
      · rw [if_pos hf, ih (k + 1) (by omega) (by omega), show N - (k + 1) = d by omega, hf, Bool.true_and]
      · rw [if_neg hf, Bool.eq_false_iff.mpr hf, Bool.false_and]
        rfl
def agB (D : MK) (t r : Nat) : Bool := kRg D r 0 == 0 || t % (kRg D r 0 * kP D) == 0
section AG
variable {p d : Nat} {D : MK} {M1 M2 : Mem}
theorem areRings1 (h : Rel0 p d D M1 M2) (hP : 0 < kP D) {t : Nat} (ht : t ≤ 3600) : f_X10_areRingsRound M1 0 (nI t) = some (if allB (agB D t) (kNr D) 0 then 1 else 0) := by
  have hb := h.ba
  have key := allF (F := fun n k => f_X10_areRingsRound_2 M1 n 0 (nI t) k) (g := agB D t) (N := kNr D) (fun n k hk => by
    show s_X10_areRingsRound_2 M1 (f_X10_areRingsRound_2 M1 n) 0 (nI t) (nI k) = _
    obtain ⟨g1, g2, g3, g4⟩ := rg_rd h hk
    have hr := (h.wf.2.2.2.2.1 k hk).1
    have hm := Nat.mul_le_mul hr hb.2.1
    unfold s_X10_areRingsRound_2 agB
    rw [oC_0, gd_t, h.g1, bd_t, h.oP, gd_t, h.cm.1.2.2.2.1, if_neg (nI_ge hk (by omega)), g1, bd_t, g2, gd_t, g3, bd_t, g4, gd_t, (h.cm.2.1 k hk).1, h.cm.1.1, pk_mul, nI_1]
    by_cases e : kRg D k 0 = 0
    · rw [e, Nat.zero_mul, if_pos (show nI 0 ≤ 0 by decide)]
      simp
    · have hpos : 0 < kRg D k 0 * kP D := Nat.mul_pos (by omega) hP
      have hne : nI (kRg D k 0 * kP D) ≠ 0 := nI_ne0 hpos (by omega)
      rw [if_neg (nI_nle hpos (by omega)), show (!(nI (kRg D k 0 * kP D) == 0)) = true by simp [hne], gd_t, nx_t, pk_rem (by omega) hpos (by omega)]
      by_cases q : t % (kRg D k 0 * kP D) = 0
      · rw [if_pos (by rw [q]; rfl), if_pos (by simp [q])]
      · rw [if_neg (nI_ne0 (by omega) (by have := Nat.mod_le t (kRg D k 0 * kP D); omega)), if_neg (by simp [e, q])]) (fun n => by
    show s_X10_areRingsRound_2 M1 (f_X10_areRingsRound_2 M1 n) 0 (nI t) (nI (kNr D)) = _
    unfold s_X10_areRingsRound_2
    rw [oC_0, gd_t, h.g1, bd_t, h.oP, gd_t, h.cm.1.2.2.2.1, if_pos (nI_le (Nat.le_refl _) (by omega))])
  exact key FU 0 (by omega) (by unfold FU; omega)
theorem areRings2 (h : Rel0 p d D M1 M2) (hP : 0 < kP D) {t : Nat} (ht : t ≤ 3600) : f_X11_isAsAtFirst M2 0 (nI t) = some (if allB (agB D t) (kNr D) 0 then 1 else 0) := by
  have hb := h.ba
  have key := allF (F := fun n k => f_X11_isAsAtFirst_2 M2 n 0 (nI t) k) (g := agB D t) (N := kNr D) (fun n k hk => by
    show s_X11_isAsAtFirst_2 M2 (f_X11_isAsAtFirst_2 M2 n) 0 (nI t) (nI k) = _
    have hr := (h.wf.2.2.2.2.1 k hk).1
    have hm := Nat.mul_le_mul hr hb.2.1
    unfold s_X11_isAsAtFirst_2 agB
    rw [oR, gd_t, rr_17 h.r, bd_t, aB_l (i := 2) zR_7 (by decide), gd_t, show gI M2 7 ((2 : Int32).toNatClampNeg) = nI (kNr D) from h.rm.1.1.2.2.2.1, if_neg (nI_ge hk (by omega)), rr_18 h.r, bd_t, m2_0, aB_t (2 * k) zR_8 rfl (by omega) (by decide), gd_t, nI_clamp (n := 2 * k) (by omega), show gI M2 8 (2 * k) = nI (kRg D k 0) by simpa using (h.rm.1.2.1 k hk).1, aB_l (i := 0) zR_7 (by decide), gd_t, show gI M2 7 ((0 : Int32).toNatClampNeg) = nI (kP D) from h.rm.1.1.1, nx_t, pk_mul, nI_1]
    by_cases e : kRg D k 0 = 0
    · rw [e, if_pos (show nI 0 ≤ 0 by decide)]
      simp
    · have hpos : 0 < kRg D k 0 * kP D := Nat.mul_pos (by omega) hP
      have hne : nI (kRg D k 0 * kP D) ≠ 0 := nI_ne0 hpos (by omega)
      rw [if_neg (nI_nle (by omega) (by omega)), show (!(nI (kRg D k 0 * kP D) == 0)) = true by simp [hne], gd_t, pk_rem (by omega) hpos (by omega)]
      by_cases q : t % (kRg D k 0 * kP D) = 0
      · rw [if_pos (by rw [q]; rfl), if_pos (by simp [q])]
      · rw [if_neg (nI_ne0 (by omega) (by have := Nat.mod_le t (kRg D k 0 * kP D); omega)), if_neg (by simp [e, q])]) (fun n => by
    show s_X11_isAsAtFirst_2 M2 (f_X11_isAsAtFirst_2 M2 n) 0 (nI t) (nI (kNr D)) = _
    unfold s_X11_isAsAtFirst_2
    rw [oR, gd_t, rr_17 h.r, bd_t, aB_l (i := 2) zR_7 (by decide), gd_t, show gI M2 7 ((2 : Int32).toNatClampNeg) = nI (kNr D) from h.rm.1.1.2.2.2.1, if_pos (nI_le (Nat.le_refl _) (by omega))])
  exact key FU 0 (by omega) (by unfold FU; omega)
end AG
theorem eqV_again {M1 M2 : Mem} (h : Rel M1 M2) : SameV M1 (f_X10_again M1 0) (f_X11_again M2 0) := by
  obtain ⟨p, d, D, h, hk⟩ := h
  have h' := h.r0
  unfold f_X10_again f_X11_again
  rw [oC_0, gd_t, h.g1, bd_t, h.oP, gd_t, oR, gd_t, nx_t, gT1 h, bd_t, gT2 h', bd_t]
  rcases Nat.eq_zero_or_pos (kLn D) with hl | hl
  · rw [if_neg (show ¬ 0 < kLn D by omega), if_pos rfl, if_pos rfl]
    exact sv_no h' hk _
  have hP := (told_p h hl).2
  rw [if_pos hl, if_neg (show ¬ (1 : Int32) = 0 by decide), if_neg (show ¬ (1 : Int32) = 0 by decide)]
  have k1 := first_loopW (F := fun n k => f_X10_again_15 M1 n 0 k) (f := fun t => allB (agB D t) (kNr D) 0) (N := 3601) (e := -1) (R := some) (fun n k hk => by
    show s_X10_again_15 M1 (f_X10_again_15 M1 n) 0 (nI k) = _
    unfold s_X10_again_15
    rw [if_neg (show ¬ (3600 : Int32) < nI k from nI_nlt (a := 3600) (by omega) (by decide)), oC_0, gd_t, areRings1 h (by omega) (by omega), bd_t, nI_1]
    by_cases q : allB (agB D k) (kNr D) 0 = true
    · rw [if_pos q, if_neg (show ¬ (1 : Int32) = 0 by decide), if_pos q]
    · rw [if_neg q, if_pos rfl, if_neg q]) (fun n => by
    show s_X10_again_15 M1 (f_X10_again_15 M1 n) 0 (nI 3601) = _
    unfold s_X10_again_15
    rw [if_pos (show (3600 : Int32) < nI 3601 by decide)])
  have k2 := first_loopW (F := fun n k => f_X11_again_17 n (sI M2 0 0 0) 0 k) (f := fun t => allB (agB D t) (kNr D) 0) (N := 3601) (e := -1) (R := fun r => some (sI M2 0 0 0, r)) (fun n k hk => by
    show s_X11_again_17 (f_X11_again_17 n) (sI M2 0 0 0) 0 (nI k) = _
    unfold s_X11_again_17
    rw [if_neg (show ¬ (3600 : Int32) < nI k from nI_nlt (a := 3600) (by omega) (by decide)), oR, gd_t, areRings2 h' (by omega) (by omega), bd_t, nI_1]
    by_cases q : allB (agB D k) (kNr D) 0 = true
    · rw [if_pos q, if_neg (show ¬ (1 : Int32) = 0 by decide), if_pos q]
    · rw [if_neg q, if_pos rfl, if_neg q]) (fun n => by
    show s_X11_again_17 (f_X11_again_17 n) (sI M2 0 0 0) 0 (nI 3601) = _
    unfold s_X11_again_17
    rw [if_pos (show (3600 : Int32) < nI 3601 by decide)])
  exact ⟨_, _, k1 FU 1 (by decide) (by unfold FU; decide), k2 FU 1 (by decide) (by unfold FU; decide), p, d, D, h', hk⟩
theorem bothHk {p d : Nat} {D : MK} {M1 M2 : Mem} (h : Rel0 p d D M1 M2) (hk : HK M1 p D) (h0 : 0 < kMi D) : ∃ M1' M2', f_X10_toldHour M1 0 = some (M1', 84) ∧ f_X11_plainHour M2 0 = some M2' ∧ Rel0 p d D M1' M2' ∧ HourC M1' p D ∧ RE M2' D ∧ (∀ a, 149 ≤ a → a < 274 → (∀ k, gI M1' a k = gI M1 a k) ∧ ∀ k, gL M1' a k = gL M1 a k) ∧ ∀ k, gL M2' 3 k = gL M2 3 k := by
  obtain ⟨M1', t1, t2, t3⟩ := told_eq h hk h0
  obtain ⟨M2', u1, u2, u3, u4⟩ := plainHour_eq h.r h.wf h.rm h0
  exact ⟨M1', M2', t1, u1, h.keep t2 u2, t3, u3, t2.2.2.2.2.2.2.2, u2.2.2⟩
theorem eq_judge {M1 M2 : Mem} (h : Rel M1 M2) (a : Int32) : Same (f_X10_judge M1 0 a) (f_X11_judge M2 0 a) := by
  obtain ⟨p, d, D, h, hk⟩ := h
  have h' := h.r0
  unfold f_X10_judge f_X11_judge
  rw [oR, gd_t, nx_t, isSlot1, bd_t, isSlot2, bd_t]
  rcases ix_or a 4 (by decide) with z | ⟨j, hj, rfl⟩
  · rw [if_neg z, if_pos rfl, if_pos rfl]
    exact same_no h' hk _
  rw [if_pos (ix_in hj (by decide)), if_neg (show ¬ (1 : Int32) = 0 by decide), if_neg (show ¬ (1 : Int32) = 0 by decide), oC_0, gd_t, h.g1, bd_t, h.oP, gd_t, gT1 h, bd_t, gT2 h', bd_t]
  rcases Nat.eq_zero_or_pos (kLn D) with hl | hl
  · rw [if_neg (show ¬ 0 < kLn D by omega), if_pos rfl, if_pos rfl]
    exact same_no h' hk _
  have zr := zC_rw j hj
  have crj := cr_rw h.c hj
  rw [if_pos hl, if_neg (show ¬ (1 : Int32) = 0 by decide), if_neg (show ¬ (1 : Int32) = 0 by decide), cr_0_5 h.c, bd_t, aB_t j zC_83 rfl hj (by decide), gd_t, nI_clamp (n := j) (by omega), crj.1, bd_t, zr.2.1, gd_t, rr_1 h'.r, bd_t, aB_t j zR_1 rfl hj (by decide), gd_t]
  rcases h'.rw' j hj with ⟨r1, r2⟩ | ⟨r1, w, n, r2, r3, r4, r5, r6, r7, r8⟩
  · rw [r1, r2, if_pos rfl, if_pos rfl]
    exact same_no h' hk _
  obtain ⟨M1', M2', t1, u1, h2, t3, u3, sm, -⟩ := bothHk h' hk (told_p h hl).1
  have e := eh_of h2 t3 (told_p h hl).1
  have hn := e.n
  rw [r1, r5, if_neg (show ¬ (1 : Int32) = 0 by decide), if_neg (ne_m1 (by omega)), t1, bd_t, u1, bd_t]
  dsimp only
  have crj2 := cr_rw h2.c hj
  rcases h2.rw' j hj with ⟨s1, s2⟩ | ⟨s1, w', n', s2, s3, s4, s5, s6, s7, s8⟩
  · rw [(sm _ (by omega) (by omega)).1, r1] at s1
    exact absurd s1 (by decide)
  have hW := h.wf
  have k1 := first_loopW (F := fun x k => f_X10_judge_45 x M1' (266 + 2 * j) 84 k) (f := fun k => !(decide (lg_cmp (gL M2' 3 (60 * j + k)) (nI (hrS D (kMi D) 9 k 3)).toInt64 = 0))) (N := min n' (hrS D (kMi D) 8 0 0)) (e := nI (min n' (hrS D (kMi D) 8 0 0))) (R := fun r => some (M1', r)) (fun x k hk => by
    show s_X10_judge_45 (f_X10_judge_45 x) M1' (266 + 2 * j) 84 (nI k) = _
    unfold s_X10_judge_45
    rw [zr.2.1, gd_t, s6, if_neg (nI_ge (by omega) (by omega)), oC_84, gd_t, e.g4, if_neg (nI_ge (by omega) (by omega)), crj2.2, bd_t, aB_t k zr.2.2.2 rfl (by omega) (by decide), gd_t, cr_84_8 h2.c, bd_t, aB_t k zC_127 rfl (by omega) (by decide), gd_t, nx_t, nx_t, nI_clamp (by omega), (e.sa (show k < _ by omega)).2.2.2, s8 k (by omega), nI_1]
    by_cases q : lg_cmp (gL M2' 3 (60 * j + k)) (nI (hrS D (kMi D) 9 k 3)).toInt64 = 0
    · rw [if_pos q, if_neg (by rw [decide_eq_true q]; decide)]
    · rw [if_neg q, if_pos (by rw [decide_eq_false q]; decide)]) (fun x => by
    show s_X10_judge_45 (f_X10_judge_45 x) M1' (266 + 2 * j) 84 (nI (min n' (hrS D (kMi D) 8 0 0))) = _
    unfold s_X10_judge_45
    rw [zr.2.1, gd_t, s6, oC_84, gd_t, e.g4]
    by_cases q : n' ≤ hrS D (kMi D) 8 0 0
    · rw [Nat.min_eq_left q, if_pos (nI_le (Nat.le_refl _) (by omega))]
    · rw [Nat.min_eq_right (by omega), if_neg (nI_ge (by omega) (by omega)), if_pos (nI_le (Nat.le_refl _) (by omega))])
  have k2 := first_loopW (F := fun x k => f_X11_judge_41 x M2' 0 (nI j) k) (f := fun k => !(decide (lg_cmp (gL M2' 3 (60 * j + k)) (nI (hrS D (kMi D) 9 k 3)).toInt64 = 0))) (N := min n' (hrS D (kMi D) 8 0 0)) (e := nI (min n' (hrS D (kMi D) 8 0 0))) (R := fun r => some (M2', r)) (fun x k hk => by
    show s_X11_judge_41 (f_X11_judge_41 x) M2' 0 (nI j) (nI k) = _
    unfold s_X11_judge_41
    rw [oR, gd_t, rr_2 h2.r, bd_t, aB_t j zR_2 rfl hj (by decide), gd_t, nI_clamp (n := j) (by omega), s7, if_neg (nI_ge (by omega) (by omega)), u3.2.1.1.1, if_neg (nI_ge (by omega) (by omega)), rr_3 h2.r, bd_t, m60, aB_t (60 * j + k) zR_3 rfl (by omega) (by decide), gd_t, nx_t, rr_45 h2.r, bd_t, m4_3, aB_t (4 * k + 3) zR_31 rfl (by omega) (by decide), gd_t, nx_t, nI_clamp (n := 60 * j + k) (by omega), nI_clamp (n := 4 * k + 3) (by omega), u3.2.1.2.2.2 k (by omega) 3 (by decide), nI_1]
    by_cases q : lg_cmp (gL M2' 3 (60 * j + k)) (nI (hrS D (kMi D) 9 k 3)).toInt64 = 0
    · rw [if_pos q, if_neg (by rw [decide_eq_true q]; decide)]
    · rw [if_neg q, if_pos (by rw [decide_eq_false q]; decide)]) (fun x => by
    show s_X11_judge_41 (f_X11_judge_41 x) M2' 0 (nI j) (nI (min n' (hrS D (kMi D) 8 0 0))) = _
    unfold s_X11_judge_41
    rw [oR, gd_t, rr_2 h2.r, bd_t, aB_t j zR_2 rfl hj (by decide), gd_t, nI_clamp (n := j) (by omega), s7, u3.2.1.1.1]
    by_cases q : n' ≤ hrS D (kMi D) 8 0 0
    · rw [Nat.min_eq_left q, if_pos (nI_le (Nat.le_refl _) (by omega))]
    · rw [Nat.min_eq_right (by omega), if_neg (nI_ge (by omega) (by omega)), if_pos (nI_le (Nat.le_refl _) (by omega))])
  exact same_of (k1 FU 0 (by omega) (by unfold FU; omega)) (k2 FU 0 (by omega) (by unfold FU; omega)) h2 t3
