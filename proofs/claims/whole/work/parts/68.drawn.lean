/-! DRAWN, CHANCE -/
/-- the first n draws told into the market -/
def drP (D : MK) (X : Nat → Int64) (o : Int32) (n : Nat) : MK := fun a b c e => if a = 2 ∧ b < kNr D ∧ c < kMi D ∧ c * kNr D + b < n ∧ drawX (X (c * kNr D + b + 1)) o = true then 1 else D a b c e
theorem dr_alk {D : MK} {X : Nat → Int64} {o : Int32} {n : Nat} : AlkS D (drP D X o n) := fun _ _ _ _ h => if_neg (fun z => h z.1)
theorem dr_alk2 {D : MK} {X : Nat → Int64} {o : Int32} {n n' : Nat} : AlkS (drP D X o n) (drP D X o n') := fun a b c e h => (dr_alk (D := D) (X := X) (o := o) (n := n') a b c e h).trans (dr_alk (D := D) (X := X) (o := o) (n := n) a b c e h).symm
theorem dr_st {D : MK} {X : Nat → Int64} {o : Int32} {n r m : Nat} : kSt (drP D X o n) r m = if r < kNr D ∧ m < kMi D ∧ m * kNr D + r < n ∧ drawX (X (m * kNr D + r + 1)) o = true then 1 else kSt D r m := by
  unfold kSt drP
  by_cases z : r < kNr D ∧ m < kMi D ∧ m * kNr D + r < n ∧ drawX (X (m * kNr D + r + 1)) o = true
  · rw [if_pos z, if_pos ⟨rfl, z⟩]
  · rw [if_neg z, if_neg (fun y => z y.2)]
theorem dr_le {D : MK} (hW : WFD D) {X : Nat → Int64} {o : Int32} {n : Nat} : ∀ r m, r < kNr D → kSt (drP D X o n) r m ≤ 1 := fun r m hr => by
  rw [dr_st]
  split
  · exact Nat.le_refl _
  · exact (hW.2.2.2.2.1 r hr).2.2 m
theorem dr_wf {D : MK} (hW : WFD D) {X : Nat → Int64} {o : Int32} {n : Nat} : WFD (drP D X o n) := dr_alk.wf hW (dr_le hW)
theorem dr_0 {D : MK} {X : Nat → Int64} {o : Int32} : drP D X o 0 = D := by
  funext a b c e
  unfold drP
  rw [if_neg (fun z => by omega)]
theorem dr_skip {D : MK} {X : Nat → Int64} {o : Int32} {n : Nat} (h : drawX (X (n + 1)) o = false) : drP D X o (n + 1) = drP D X o n := by
  funext a b c e
  unfold drP
  by_cases z : a = 2 ∧ b < kNr D ∧ c < kMi D ∧ c * kNr D + b < n ∧ drawX (X (c * kNr D + b + 1)) o = true
  · rw [if_pos z, if_pos ⟨z.1, z.2.1, z.2.2.1, by omega, z.2.2.2.2⟩]
  · rw [if_neg z, if_neg]
    intro y
    by_cases q : c * kNr D + b = n
    · rw [q, h] at y
      exact absurd y.2.2.2.2 (by decide)
    · exact z ⟨y.1, y.2.1, y.2.2.1, by omega, y.2.2.2.2⟩
theorem pr_inj {N b r c m : Nat} (hb : b < N) (hr : r < N) (h : c * N + b = m * N + r) : c = m ∧ b = r := by
  rcases Nat.lt_trichotomy c m with z | z | z
  · have := Nat.mul_le_mul_right N (show c + 1 ≤ m by omega)
    rw [Nat.succ_mul] at this
    omega
  · subst z
    exact ⟨rfl, by omega⟩
  · have := Nat.mul_le_mul_right N (show m + 1 ≤ c by omega)
    rw [Nat.succ_mul] at this
    omega
theorem bd_eta {β γ : Type} (x : Option (β × γ)) : (bd x fun u => some (u.1, u.2)) = x := by
  cases x <;> rfl
section DR
variable {p d : Nat} {D : MK} {M1 M2 : Mem}
theorem drawn24 (h : Rel0 p d D M1 M2) {o : Int32} {x : Int64} {m : Nat} (hm : m < kMi D) (k12 : Mem → Nat → Int32 → Nat → Int64 → Int32 → Option (Mem × Nat)) : ∀ n r M, r ≤ kNr D → kNr D < n + r → KeepC p M1 M → CM M d (drP D (seqX x) o (m * kNr D + r)) → ∃ M', f_X10_drawnHour_24 k12 n M 0 o d (seqX x (m * kNr D + r)) (nI m) (nI r) = k12 M' 0 o d (seqX x ((m + 1) * kNr D)) (nI (m + 1)) ∧ KeepC p M1 M' ∧ CM M' d (drP D (seqX x) o ((m + 1) * kNr D)) := by
  have hb := h.ba
  have hd := h.d_or
  have hj := h.dj
  have ms := mb_sh d h.db
  intro n
  induction n with
  | zero => intro r M h1 h2; omega
  | succ n ih =>
    intro r M h1 h2 hk hC
    have hr := h.kc hk
    have e3 : gI M d 3 = nI (kNr D) := hC.1.2.2.2.1
    show ∃ M', s_X10_drawnHour_24 k12 (f_X10_drawnHour_24 k12 n) M 0 o d _ (nI m) (nI r) = _ ∧ _
    unfold s_X10_drawnHour_24
    rw [ms.1, gd_t, e3]
    by_cases e : r = kNr D
    · subst e
      rw [if_pos (nI_le (Nat.le_refl _) (by omega)), nI_1, ← Nat.succ_mul]
      rw [← Nat.succ_mul] at hC
      exact ⟨M, rfl, hk, hC⟩
    have hr3 : r < kNr D := by omega
    rw [if_neg (nI_ge hr3 (by omega)), nx_t, nx_t]
    have eX : 1103515245 * seqX x (m * kNr D + r) + 12345 - (1103515245 * seqX x (m * kNr D + r) + 12345) / 2147483648 * 2147483648 = seqX x (m * kNr D + (r + 1)) := rfl
    rw [eX, nI_1]
    have ed : drawX (seqX x (m * kNr D + r + 1)) o = !(decide (0 ≤ lg_cmp (seqX x (m * kNr D + (r + 1)) / 65536 - seqX x (m * kNr D + (r + 1)) / 65536 / 100 * 100) o.toInt64)) := rfl
    by_cases q : 0 ≤ lg_cmp (seqX x (m * kNr D + (r + 1)) / 65536 - seqX x (m * kNr D + (r + 1)) / 65536 / 100 * 100) o.toInt64
    · rw [if_pos q]
      rw [decide_eq_true q] at ed
      exact ih (r + 1) M (by omega) (by omega) hk (by
        rw [← Nat.add_assoc, dr_skip ed]
        exact hC)
    rw [if_neg q]
    have ed : drawX (seqX x (m * kNr D + r + 1)) o = true := by rw [ed, decide_eq_false q]; rfl
    have k1 := hr.dL (a := d + 4 + r) (k := 2) (v := gL M (d + 4 + r) 2 ||| ((1) <<< ((nI m).toInt64 &&& 63))) (by unfold inB; omega)
    rw [mk_6 hr.c h.db, bd_t, aB_t r ms.2.1 rfl (by omega) (by decide), gd_t, nI_clamp (n := r) (by omega), mk_r hr.c h.db (by omega), bd_t, ms.2.2.2.2.1 r (by omega), gd_t, nx_t, nx_t]
    refine ih (r + 1) _ (by omega) (by omega) (hk.tr k1) (dr_alk2.cm hC (fun _ _ _ => rfl) (by exact h.wf.n) (fun r' hr' m' hm' => ?_))
    have hr'' : r' < kNr D := hr'
    have hbt := (hC.2.1 r' hr').2.2 m' hm'
    rw [gL_sL, dr_st]
    rw [dr_st] at hbt
    by_cases er : r' = r
    · subst er
      rw [if_pos ⟨rfl, rfl⟩, bitL_or (by omega) hm', hbt]
      by_cases em : m' = m
      · subst em
        rw [if_pos (show r' < kNr D ∧ m' < kMi D ∧ m' * kNr D + r' < m' * kNr D + (r' + 1) ∧ _ from ⟨hr'', hm, by omega, ed⟩), decide_eq_true rfl, Bool.or_true]
        rfl
      · rw [decide_eq_false em, Bool.or_false]
        have : ∀ n', (m' * kNr D + r' < n' ↔ m' * kNr D + r' < n') := fun _ => Iff.rfl
        have ne : m' * kNr D + r' ≠ m * kNr D + r' := fun z => em (pr_inj hr'' hr'' z).1
        by_cases z : m' * kNr D + r' < m * kNr D + r'
        · simp only [z, show m' * kNr D + r' < m * kNr D + (r' + 1) by omega]
        · simp only [z, show ¬ m' * kNr D + r' < m * kNr D + (r' + 1) by omega]
    · rw [if_neg (fun z => er (by omega)), hbt]
      have ne : m' * kNr D + r' ≠ m * kNr D + r := fun z => er (pr_inj hr'' hr3 z).2
      by_cases z : m' * kNr D + r' < m * kNr D + r
      · simp only [z, show m' * kNr D + r' < m * kNr D + (r + 1) by omega]
      · simp only [z, show ¬ m' * kNr D + r' < m * kNr D + (r + 1) by omega]
theorem drawn12 (h : Rel0 p d D M1 M2) (h0 : 0 < kMi D) {o : Int32} {x : Int64} : ∀ n m M, m ≤ kMi D → kMi D < n + m → KeepC p M1 M → CM M d (drP D (seqX x) o (m * kNr D)) → ∃ M', f_X10_drawnHour_12 n M 0 o d (seqX x (m * kNr D)) (nI m) = some (M', 84) ∧ KeepC p M1 M' ∧ EH M' d (drP D (seqX x) o (kMi D * kNr D)) ∧ gI M' 0 7 = 0 := by
  have hb := h.ba
  have ms := mb_sh d h.db
  intro n
  induction n with
  | zero => intro r M h1 h2; omega
  | succ n ih =>
    intro m M h1 h2 hk hC
    have e1 : gI M d 1 = nI (kMi D) := hC.1.2.1
    show ∃ M', s_X10_drawnHour_12 (f_X10_drawnHour_12 n) M 0 o d _ (nI m) = _ ∧ _
    unfold s_X10_drawnHour_12
    rw [ms.1, gd_t, e1]
    by_cases e : m = kMi D
    · subst e
      obtain ⟨M', t1, t2, t3, t4⟩ := trialH (h.kc hk) hC (dr_wf h.wf) h0
      rw [if_pos (nI_le (Nat.le_refl _) (by omega)), oC_0, gd_t, t1, bd_t]
      exact ⟨M', rfl, hk.tr t2, t3, t4⟩
    obtain ⟨M', t1, t2, t3⟩ := drawn24 h (o := o) (x := x) (m := m) (by omega) (f_X10_drawnHour_12 n) FU 0 M (by omega) (by unfold FU; omega) hk hC
    rw [if_neg (nI_ge (by omega) (by omega))]
    have t1' : f_X10_drawnHour_24 (f_X10_drawnHour_12 n) FU M 0 o d (seqX x (m * kNr D)) (nI m) 0 = _ := t1
    rw [t1']
    exact ih (m + 1) M' (by omega) (by omega) t2 t3
theorem drawnHour_eq (h : Rel0 p d D M1 M2) (h0 : 0 < kMi D) (o y : Int32) : ∃ M', f_X10_drawnHour M1 0 y o = some (M', 84) ∧ KeepC p M1 M' ∧ EH M' d (drP D (seqX y.toInt64) o (kMi D * kNr D)) ∧ gI M' 0 7 = 0 := by
  obtain ⟨M, t1, t2, t3⟩ := trialM h
  obtain ⟨M', u1, u2⟩ := drawn12 h h0 (o := o) (x := y.toInt64) FU 0 M (by omega) (by have := h.ba; unfold FU; omega) t2 (by
    rw [Nat.zero_mul, dr_0]
    exact t3)
  refine ⟨M', ?_, u2⟩
  unfold f_X10_drawnHour
  rw [oC_0, gd_t, t1, bd_t]
  rw [Nat.zero_mul] at u1
  exact u1
theorem RE.i0 {M : Mem} {k : Nat} {v : Int32} (u : RE M D) (h46 : k ≠ 46) (h47 : k ≠ 47) : RE (sI M 0 k v) D := by
  have e : ∀ a j, a ≠ 0 → gI (sI M 0 k v) a j = gI M a j := fun a j q => by rw [gI_sI, if_neg (fun z => q z.1)]
  have e46 : gI (sI M 0 k v) 0 46 = gI M 0 46 := by rw [gI_sI, if_neg (fun z => h46 z.2.symm)]
  have e47 : gI (sI M 0 k v) 0 47 = gI M 0 47 := by rw [gI_sI, if_neg (fun z => h47 z.2.symm)]
  obtain ⟨⟨u1, u2, u3, u4⟩, ⟨r1, r2, r3, r4⟩, t1, t2⟩ := u
  refine ⟨⟨u1.I, u2, u3.only (fun a k h1 h2 => e a k (by omega)), fun r hr m hm => ?_⟩, ⟨?_, fun s hs => ?_, fun b hb => ?_, fun i hi j hj => ?_⟩, fun s hs j hj => ?_, fun b hb j hj => ?_⟩
  · rw [e _ _ (by decide)]
    exact u4 r hr m hm
  · rw [e46, e47]
    exact r1
  · simp only [e 16 _ (by decide), e 17 _ (by decide), e 18 _ (by decide), e 19 _ (by decide), e 20 _ (by decide), e 21 _ (by decide), e 22 _ (by decide)]
    exact r2 s hs
  · simp only [e 23 _ (by decide), e 24 _ (by decide), e 25 _ (by decide), e 26 _ (by decide), e 27 _ (by decide)]
    exact r3 b hb
  · rw [e _ _ (by decide)]
    exact r4 i hi j hj
  · rw [e _ _ (by decide), e _ _ (by decide)]
    exact t1 s hs j hj
  · rw [e _ _ (by decide)]
    exact t2 b hb j hj
theorem draws_eq {M : Mem} (hR : RR M) (hW : WFD D) (hm : RM M 0 D) (h0 : 0 < kMi D) {o : Int32} (ho : ¬ o = -1) (x : Int64) : ∃ M', f_X11_draws M 0 x o = some M' ∧ KeepR M M' ∧ RE M' (drP D (seqX x) o (kMi D * kNr D)) := by
  have hMi := hW.mi
  have hN := hW.n
  have kM : KeepR M (sL (sI (plM M) 0 27 o) 0 28 x) := ((plM_k hR).I (a := 0) (k := 27) rfl).L (by decide)
  have hm4 := hm.keep kM
  have e25 : gI (sL (sI (plM M) 0 27 o) 0 28 x) 0 25 = -1 := by
    show gI (sI (plM M) 0 27 o) 0 25 = -1
    unfold plM
    rw [gI_sI, if_neg (by omega), gI_sI, if_neg (by omega), gI_sI, if_pos ⟨rfl, rfl⟩]
  have e27 : gI (sL (sI (plM M) 0 27 o) 0 28 x) 0 27 = o := by
    show gI (sI (plM M) 0 27 o) 0 27 = o
    rw [gI_sI, if_pos ⟨rfl, rfl⟩]
  have e28 : gL (sL (sI (plM M) 0 27 o) 0 28 x) 0 28 = x := by rw [gL_sL, if_pos ⟨rfl, rfl⟩]
  have hT : TuR (sL (sI (plM M) 0 27 o) 0 28 x) (drP D (seqX x) o (kMi D * kNr D)) (seqX x) := by
    refine tuR_of kM.1 hW hm4 (fun _ => rfl) rfl rfl (fun _ => rfl) (fun r m hr hm' => ?_)
    rw [e25, e27, dr_st]
    have hlt : m * kNr D + r < kMi D * kNr D := by
      have := Nat.mul_le_mul_right (kNr D) (show m + 1 ≤ kMi D by omega)
      rw [Nat.succ_mul] at this
      omega
    by_cases z : drawX (seqX x (m * kNr D + r + 1)) o = true
    · rw [if_pos ⟨hr, hm', hlt, z⟩]
      exact ⟨fun _ => Or.inr ⟨ho, z⟩, fun _ => rfl⟩
    · rw [if_neg (fun y => z y.2.2.2)]
      constructor
      · exact fun y => Or.inl (Or.inl y)
      · rintro ((y | y) | y)
        · exact y
        · exact absurd y.1 (ne_m1 (by omega))
        · exact absurd y.2 z
  obtain ⟨Mb, b1, b2, b3, -⟩ := rhour_eq (dr_wf hW) hT (dr_alk.rm0 hm4.1) (fun _ => e28) h0
  refine ⟨sI Mb 0 27 (-1), ?_, (kM.tr b2).I rfl, b3.i0 (by decide) (by decide)⟩
  unfold f_X11_draws
  rw [oR, gd_t, plainly_eq, bd_t, nx_t, nx_t, b1, bd_t, nx_t]
theorem areOdds_eq (M : Mem) (a b : Int32) : f_X10_areOdds M a b = some (if (0 ≤ a ∧ a < nI 2000000001) ∧ (0 ≤ b ∧ b < nI 101) then 1 else 0) := by
  unfold f_X10_areOdds
  rw [rngC b 101 (hi := 100) (by decide) (by decide), rngC a 2000000001 (hi := 2000000000) (by decide) (by decide)]
  by_cases z : 0 ≤ a ∧ a < nI 2000000001
  · rw [if_pos z]
    by_cases y : 0 ≤ b ∧ b < nI 101
    · rw [if_pos y, if_pos ⟨z, y⟩]
    · rw [if_neg y, if_neg (fun q => y q.2)]
  · rw [if_neg z, if_neg (fun q => z q.1)]
theorem isDraw_eq (h : Rel0 p d D M1 M2) (a b : Int32) : f_X11_isDraw M2 0 a b = some (if 0 < kLn D ∧ (0 ≤ a ∧ a < nI 2000000001) ∧ (0 ≤ b ∧ b < nI 101) then 1 else 0) := by
  unfold f_X11_isDraw
  rw [oR, gd_t, gT2 h, bd_t]
  by_cases x : 0 < kLn D
  case' neg =>
    rw [if_neg x, if_pos rfl, if_neg (fun q => x q.1)]
  rw [if_pos x, if_neg (show ¬ (1 : Int32) = 0 by decide), in_c 2000000001 (by decide) (by decide), bd_t]
  by_cases z : 0 ≤ a ∧ a < nI 2000000001
  case' neg =>
    rw [if_neg z, if_pos rfl, if_neg (fun q => z q.2.1)]
  rw [if_pos z, if_neg (show ¬ (1 : Int32) = 0 by decide), in_c 101 (by decide) (by decide), bd_t]
  by_cases y : 0 ≤ b ∧ b < nI 101
  · rw [if_pos y, if_neg (show ¬ (1 : Int32) = 0 by decide), if_pos ⟨x, z, y⟩]
  · rw [if_neg y, if_pos rfl, if_neg (fun q => y q.2.2)]
theorem eq_drawn {M1 M2 : Mem} (h : Rel M1 M2) (a b : Int32) : Same (f_X10_drawn M1 0 a b) (f_X11_drawn M2 0 a b) := by
  obtain ⟨p, d, D, h, hk⟩ := h
  have h' := h.r0
  have hb := h.ba
  unfold f_X10_drawn f_X11_drawn
  rw [oC_0, gd_t, h.g1, bd_t, h.oP, gd_t, oR, gd_t, nx_t, gT1 h, bd_t, isDraw_eq h', bd_t, areOdds_eq, bd_t]
  by_cases hl : 0 < kLn D
  case' neg =>
    rw [if_neg hl, if_pos rfl, if_neg (show ¬ (0 < kLn D ∧ (0 ≤ a ∧ a < nI 2000000001) ∧ (0 ≤ b ∧ b < nI 101)) from fun q => hl q.1), if_pos rfl]
    exact same_no h' hk _
  rw [if_pos hl, if_neg (show ¬ (1 : Int32) = 0 by decide)]
  by_cases z : (0 ≤ a ∧ a < nI 2000000001) ∧ (0 ≤ b ∧ b < nI 101)
  case' neg =>
    rw [if_neg z, if_pos rfl, if_neg (show ¬ (0 < kLn D ∧ (0 ≤ a ∧ a < nI 2000000001) ∧ (0 ≤ b ∧ b < nI 101)) from fun q => z q.2), if_pos rfl]
    exact same_no h' hk _
  have h0 := (told_p h hl).1
  obtain ⟨Ma, t1, t2, t3, t4⟩ := drawnHour_eq h' h0 b a
  obtain ⟨Mb, u1, u2, u3⟩ := draws_eq h'.r h.wf h'.rm h0 (o := b) (fun y => by
    have := z.2.1
    rw [y] at this
    exact absurd this (by decide)) a.toInt64
  rw [if_pos z, if_neg (show ¬ (1 : Int32) = 0 by decide), if_pos (show 0 < kLn D ∧ (0 ≤ a ∧ a < nI 2000000001) ∧ (0 ≤ b ∧ b < nI 101) from ⟨hl, z⟩), if_neg (show ¬ (1 : Int32) = 0 by decide), t1, bd_t, u1, bd_t]
  dsimp only
  rw [oC_84, gd_t, t3.g4, u3.2.1.1.1]
  exact ⟨_, _, _, rfl, rfl, p, d, D, h'.keep t2 u2, Or.inl t4⟩
/-! chance -/
def chT (D : MK) (o y : Int32) (b : Nat) (k : Nat) : Nat := lkS (hrS (drP D (seqX ((y + nI k).toInt64)) o (kMi D * kNr D)) (kMi D)) b (kBy D b 3)
def chG (D : MK) (o y : Int32) (b : Nat) (k : Nat) (c : Int32) : Int32 := if chT D o y b k = 0 then c + 1 else c
theorem chance1 (h : Rel0 p d D M1 M2) (h0 : 0 < kMi D) {o y : Int32} {b N : Nat} (hb : b < kNb D) (hN : N ≤ 20) : ∀ n M c k, k ≤ N → N < n + k → (KeepC p M1 M ∧ HK M p D) → ∃ M', (KeepC p M1 M' ∧ HK M' p D) ∧ f_X10_chance_40 n M 0 y (nI N) o (nI b) c (nI k) = some (M', foS (chG D o y b) (N - k) k c) := by
  have hn := h.ba
  refine memfold (F := fun n M c k => f_X10_chance_40 n M 0 y (nI N) o (nI b) c k) (g := chG D o y b) (R := fun M' c => some (M', c)) (fun n M c k hk hI => ?_) (fun n M c hI => ?_)
  · obtain ⟨M', t1, t2, t3, t4⟩ := drawnHour_eq (h.kc hI.1) h0 o (y + nI k)
    refine ⟨M', ⟨hI.1.tr t2, Or.inl t4⟩, ?_⟩
    show s_X10_chance_40 (f_X10_chance_40 n) M 0 y (nI N) o (nI b) c (nI k) = _
    unfold s_X10_chance_40 chG
    have hW' : WFD (drP D (seqX (y + nI k).toInt64) o (kMi D * kNr D)) := dr_wf h.wf
    have e1 : gI M' 128 b = (if hrS (drP D (seqX (y + nI k).toInt64) o (kMi D * kNr D)) (kMi D) 7 b 0 = 0 then -1 else nI (hrS (drP D (seqX (y + nI k).toInt64) o (kMi D * kNr D)) (kMi D) 7 b 0 - 1)) := (EH.by t3 (b := b) hb).2
    have e2 := (iy_hr hW' (kMi D) hn.1).2.2 b hb
    have e3 := d7_le hW' (b := b) hb
    rw [if_neg (nI_ge hk (by omega)), oC_0, gd_t, t1, bd_t]
    dsimp only
    rw [oC_84, gd_t, cr_84_9 t3.1, bd_t, aB_t b zC_128 rfl (by omega) (by decide), gd_t, nI_clamp (by omega), e1, nI_1]
    by_cases q : chT D o y b k = 0
    · have q2 : ¬ hrS (drP D (seqX (y + nI k).toInt64) o (kMi D * kNr D)) (kMi D) 7 b 0 = 0 := fun z => by
        have := e2.mp z
        have : 0 < chT D o y b k := this
        omega
      have e3' : hrS (drP D (seqX (y + nI k).toInt64) o (kMi D * kNr D)) (kMi D) 7 b 0 ≤ 61 := e3
      rw [if_pos q]
      rw [if_neg (show ¬ (if hrS (drP D (seqX (y + nI k).toInt64) o (kMi D * kNr D)) (kMi D) 7 b 0 = 0 then (-1 : Int32) else nI (hrS (drP D (seqX (y + nI k).toInt64) o (kMi D * kNr D)) (kMi D) 7 b 0 - 1)) = -1 by
        rw [if_neg q2]
        exact ne_m1 (by omega))]
    · have q2 : hrS (drP D (seqX (y + nI k).toInt64) o (kMi D * kNr D)) (kMi D) 7 b 0 = 0 := e2.mpr (by
        show 0 < chT D o y b k
        omega)
      rw [if_neg q]
      rw [if_pos (show (if hrS (drP D (seqX (y + nI k).toInt64) o (kMi D * kNr D)) (kMi D) 7 b 0 = 0 then (-1 : Int32) else nI (hrS (drP D (seqX (y + nI k).toInt64) o (kMi D * kNr D)) (kMi D) 7 b 0 - 1)) = -1 from if_pos q2)]
  · show s_X10_chance_40 (f_X10_chance_40 n) M 0 y (nI N) o (nI b) c (nI N) = _
    unfold s_X10_chance_40
    rw [if_pos (nI_le (Nat.le_refl _) (by omega))]
theorem add64 {s k : Nat} (h : s + k < 2 ^ 31) : (nI s).toInt64 + (nI k).toInt64 = (nI s + nI k).toInt64 := by
  apply Int64.toInt_inj.mp
  rw [Int64.toInt_add, Int32.toInt_toInt64, Int32.toInt_toInt64, Int32.toInt_toInt64, nI_add, nI_toInt (by omega), nI_toInt (by omega), nI_toInt h]
  rw [show (s : Int) + (k : Int) = ((s + k : Nat) : Int) by omega]
  apply Int.bmod_eq_of_le <;> omega
theorem chance2 (hR : RR M2) (hW : WFD D) (hm : RM M2 0 D) (h0 : 0 < kMi D) {o : Int32} (ho : ¬ o = -1) {sd b N : Nat} (hs : sd ≤ 2000000000) (hb : b < kNb D) (hN : N ≤ 20) : ∀ n M c k, k ≤ N → N < n + k → KeepR M2 M → ∃ M', KeepR M2 M' ∧ f_X11_chance_44 n M 0 (nI sd) (nI N) o (nI b) c (nI k) = some (M', foS (chG D o (nI sd) b) (N - k) k c) := by
  have hn := hW.n
  refine memfold (F := fun n M c k => f_X11_chance_44 n M 0 (nI sd) (nI N) o (nI b) c k) (g := chG D o (nI sd) b) (R := fun M' c => some (M', c)) (fun n M c k hk hI => ?_) (fun n M c hI => ?_)
  · obtain ⟨M', t1, t2, t3⟩ := draws_eq hI.1 hW (hm.keep hI) h0 ho (nI sd + nI k).toInt64
    refine ⟨M', hI.tr t2, ?_⟩
    show s_X11_chance_44 (f_X11_chance_44 n) M 0 (nI sd) (nI N) o (nI b) c (nI k) = _
    unfold s_X11_chance_44 chG
    have hl : chT D o (nI sd) b k < 1000 := by
      have hW' : WFD (drP D (seqX (nI sd + nI k).toInt64) o (kMi D * kNr D)) := dr_wf hW
      have iv := (iv_hr hW' (kMi D)).2.1 b hb
      have h3 := (hW.2.2.2.2.2.2 b hb).2.2.2.1
      have : ∀ w, w ≤ 3 → lkS (hrS (drP D (seqX (nI sd + nI k).toInt64) o (kMi D * kNr D)) (kMi D)) b w ≤ 9 * w := by
        intro w
        induction w with
        | zero => intro _; exact Nat.le_refl _
        | succ w ih =>
          intro hw
          have := ih (by omega)
          have := iv.2 w (by omega)
          unfold lkS
          omega
      have := this _ h3
      unfold chT
      omega
    have e1 : f_X11_lackOf M' 0 (nI b) = some (nI (chT D o (nI sd) b k)) := RE.lk t3 (b := b) hb
    rw [if_neg (nI_ge hk (by omega)), oR, gd_t, add64 (by omega), t1, bd_t, e1, bd_t, nI_1]
    by_cases q : chT D o (nI sd) b k = 0
    · rw [if_pos q, if_pos (by rw [q]; rfl)]
    · rw [if_neg q, if_neg (nI_ne0 (by omega) (by omega)), Int32.add_zero]
  · show s_X11_chance_44 (f_X11_chance_44 n) M 0 (nI sd) (nI N) o (nI b) c (nI N) = _
    unfold s_X11_chance_44
    rw [if_pos (nI_le (Nat.le_refl _) (by omega))]
theorem eq_chance {M1 M2 : Mem} (h : Rel M1 M2) (a c o b : Int32) : Same (f_X10_chance M1 0 a c o b) (f_X11_chance M2 0 a c o b) := by
  obtain ⟨p, d, D, h, hk⟩ := h
  have h' := h.r0
  have hb := h.ba
  unfold f_X10_chance f_X11_chance
  rw [areOdds_eq, bd_t, oR, gd_t, nx_t, isDraw_eq h', bd_t, oC_0, gd_t, h.g1, bd_t, h.oP, gd_t, gB1 h, bd_t, gB2 h', bd_t]
  by_cases z : (0 ≤ a ∧ a < nI 2000000001) ∧ (0 ≤ o ∧ o < nI 101)
  case' neg =>
    rw [if_neg z, if_pos rfl, if_neg (show ¬ (0 < kLn D ∧ (0 ≤ a ∧ a < nI 2000000001) ∧ (0 ≤ o ∧ o < nI 101)) from fun q => z q.2), if_pos rfl]
    exact same_no h' hk _
  rw [if_pos z, if_neg (show ¬ (1 : Int32) = 0 by decide), in32 _ c (lo := 1) (hi := 20) 1 20 rfl rfl, bd_t]
  have e1 : ∀ {α : Type} (x y : α), (if c < 1 then x else if 20 < c then x else y) = if 1 ≤ c ∧ c ≤ 20 then y else x := by
    intro α x y
    by_cases q : c < 1
    · rw [if_pos q, if_neg (fun w => Int32.not_le.mpr q w.1)]
    · rw [if_neg q]
      by_cases q2 : 20 < c
      · rw [if_pos q2, if_neg (fun w => Int32.not_le.mpr q2 w.2)]
      · rw [if_neg q2, if_pos ⟨Int32.not_lt.mp q, Int32.not_lt.mp q2⟩]
  rw [e1]
  by_cases zc : 1 ≤ c ∧ c ≤ 20
  case' neg =>
    rw [if_neg zc, if_neg zc, if_pos (show (0 : Int32) = 0 from rfl)]
    split
    · exact same_no h' hk _
    · exact same_no h' hk _
  rw [if_pos zc, if_pos zc, if_neg (show ¬ (1 : Int32) = 0 by decide)]
  rcases ix_or b (kNb D) (by omega) with zb | ⟨b, hbb, rfl⟩
  · rw [if_neg zb, if_pos (show (0 : Int32) = 0 from rfl), if_pos (show (0 : Int32) = 0 from rfl)]
    split
    · exact same_no h' hk _
    · exact same_no h' hk _
  have hl := (some_p h (Or.inr (Or.inl (by omega)))).2.2
  have h0 := (told_p h hl).1
  rw [if_pos (ix_in hbb (by omega)), if_neg (show ¬ (1 : Int32) = 0 by decide), if_neg (show ¬ (1 : Int32) = 0 by decide), if_pos (show 0 < kLn D ∧ (0 ≤ a ∧ a < nI 2000000001) ∧ (0 ≤ o ∧ o < nI 101) from ⟨hl, z⟩), if_neg (show ¬ (1 : Int32) = 0 by decide)]
  rcases ix_or a 2000000001 (by decide) with q | ⟨sd, hsd, rfl⟩
  · exact absurd z.1 q
  rcases ix_or c 21 (by decide) with q | ⟨N, hN, rfl⟩
  · refine absurd ⟨Int32.le_trans (by decide) zc.1, ?_⟩ q
    have := zc.2
    rw [Int32.le_iff_toInt_le] at this
    rw [Int32.lt_iff_toInt_lt]
    rw [show (20 : Int32).toInt = 20 by decide] at this
    rw [show (nI 21).toInt = 21 by decide]
    omega
  obtain ⟨Ma, a1, a2⟩ := chance1 h' h0 (o := o) (y := nI sd) (N := N) hbb (by omega) FU M1 0 0 (by omega) (by unfold FU; omega) ⟨KeepC.rf h.c, hk⟩
  obtain ⟨Mb, b1, b2⟩ := chance2 h'.r h.wf h'.rm h0 (o := o) (fun y => by
    have := z.2.1
    rw [y] at this
    exact absurd this (by decide)) (sd := sd) (N := N) (by omega) hbb (by omega) FU (sI M2 0 0 0) 0 0 (by omega) (by unfold FU; omega) (KeepR.rf h'.r)
  have a2' : f_X10_chance_40 FU M1 0 (nI sd) (nI N) o (nI b) 0 0 = _ := a2
  have b2' : f_X11_chance_44 FU (sI M2 0 0 0) 0 (nI sd) (nI N) o (nI b) 0 0 = _ := b2
  rw [a2', b2']
  exact ⟨_, _, _, rfl, rfl, p, d, D, h'.keep a1.1 b1, a1.2⟩
end DR
