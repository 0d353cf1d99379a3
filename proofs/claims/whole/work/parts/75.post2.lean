/-! THE POST: the class sets out; the reference's steps -/
section PB
variable {p f to m0 : Nat} {D : MK}
theorem bring_eq {M : Mem} (hH : HC M p D) (hf : f < kP D) (hft : f ≠ to) (hto : to < kP D) (h0 : m0 < kMi D) : ∃ M', f_X5_bring M 146 p 85 (nI f) (nI to) (nI m0) = some M' ∧ OnlyL inPo M M' ∧ BrE D f m0 to M' := by
  have hW := hH.2.2.2.1
  have hn := hW.n
  have hMi := hW.mi
  have hkP := hW.p
  have hP0 : 0 < kP D := by omega
  have O1 : OnlyL inPo M (sI (sI M 146 0 (-1)) 146 1 1000000) := (OnlyL.rf.I (by unfold inPo; omega)).I (by unfold inPo; omega)
  obtain ⟨Ma, a1, a2, a3⟩ := fillI_eq (M := sI (sI M 146 0 (-1)) 146 1 1000000) (q := 147) (v := 1000000) zC_147 (by decide)
  obtain ⟨Mb, b1, b2, b3⟩ := fillI_eq (M := Ma) (q := 148) (v := 1000000) zC_148 (by decide)
  have Oa := O1.tr (a2.mono (fun a z => by unfold inPo; omega))
  have Ob := Oa.tr (b2.mono (fun a z => by unfold inPo; omega))
  have Oc : OnlyL inPo M (sI Mb 147 f 0) := Ob.I (by unfold inPo; omega)
  have e146 : ∀ k, gI (sI Mb 147 f 0) 146 k = gI (sI (sI M 146 0 (-1)) 146 1 1000000) 146 k := fun k => by
    rw [gI_sI, if_neg (by omega), (b2.2 146 (by omega)).1, (a2.2 146 (by omega)).1]
  have hI : BrI D f m0 to m0 (sI Mb 147 f 0) := by
    refine ⟨fun q hq => ?_, fun s hs => ?_, ?_, ?_, fun n z => ?_⟩
    · rw [gI_sI]
      by_cases e : q = f
      · rw [if_pos ⟨rfl, e⟩]
        exact Or.inr ⟨0, by omega, rfl, fun n => ⟨fun _ => Nat.zero_le _, fun _ => ⟨by rw [e]; simp [okB], by rw [e]; exact hft, Or.inl e⟩⟩⟩
      · rw [if_neg (fun z => e z.2), (b2.2 147 (by omega)).1, a3 q (by omega)]
        refine Or.inl ⟨rfl, fun n z => ?_⟩
        rcases z.2.2 with y | y
        · exact e y
        · have := sT_low (f := f) hP0 hMi h0 n q _ (Nat.le_refl _)
          omega
    · rw [gI_sI, if_neg (by omega), b3 s (by omega)]
      refine Or.inl ⟨rfl, fun n z => ?_⟩
      obtain ⟨n', -, m1, c1, c2, c3⟩ := z
      have := sT_low hP0 hMi h0 n' _ _ c3
      omega
    · rw [e146, gI_sI, if_neg (by omega), gI_sI, if_pos ⟨rfl, rfl⟩]
    · rw [e146, gI_sI, if_pos ⟨rfl, rfl⟩]
    · have := sT_low (f := f) hP0 hMi h0 n to _ (Nat.le_refl _)
      omega
  obtain ⟨M', u1, u2, u3⟩ := bring40 (f := f) (hH.onlyP Oc) hft hto h0 FU m0 (sI Mb 147 f 0) (Nat.le_refl _) (by omega) (by unfold FU; omega) OnlyL.rf (Or.inl hI)
  refine ⟨M', ?_, Oc.tr u2, u3⟩
  have hc1 : CR (sI (sI M 146 0 (-1)) 146 1 1000000) := O1.CR hH.2.1
  unfold f_X5_bring
  rw [zC_po, gd_t, nx_t, nx_t, cr_146_2 hc1, bd_t, a1, bd_t, cr_146_3 (Oa.CR hH.2.1), bd_t, b1, bd_t, cr_146_2 (Ob.CR hH.2.1), bd_t, aB_t f zC_147 rfl (by omega) (by decide), gd_t, nx_t, nI_clamp (by omega)]
  exact u1
end PB
/-! the reference -/
def in35 (a _k : Nat) : Prop := a = 35
def in345 (a _k : Nat) : Prop := a = 34 ∨ a = 35
theorem keep345 {M M' : Mem} (h : OnlyK in345 M M') (hR : RR M) : KeepR M M' := by
  refine ⟨h.RR hR, fun a k q => h.2 a k (fun z => ?_), fun k => ?_⟩
  · unfold in345 at z
    rcases z with rfl | rfl <;> cases q
  · show M'.2.1 3 k = _
    rw [h.1]
    rfl
theorem RC.on345 {M M' : Mem} {D : MK} (h : RC M D) (hO : OnlyK in345 M M') : RC M' D := by
  refine ⟨hO.RR h.1, h.2.1, h.2.2.1.only (fun a k h1 h2 => hO.2 a k (fun z => by unfold in345 at z; omega)), fun r hr m hm => ?_⟩
  rw [hO.2 _ _ (by unfold in345; omega)]
  exact h.2.2.2 r hr m hm
theorem in35_5 {M M' : Mem} (h : OnlyK in35 M M') : OnlyK in345 M M' := h.mono (fun _ _ z => Or.inr z)
section RP
variable {M : Mem} {D : MK} {f m0 : Nat}
def TqS (M : Mem) (D : MK) (c : Nat) (T : Nat → Nat) : Prop := ∀ q, q < kP D → gI M c q = nI (T q) ∧ (T q < kMi D ∨ T q = 1000000)
theorem isHost_eq (h : RC M D) {q : Nat} (hq : q < 100) : f_X11_isHost M 0 (nI q) = some (if hoB D q = true then 1 else 0) := by
  have hW := h.2.1
  have hn := hW.n
  have key : ∀ n k, k ≤ kNb D → kNb D < n + k → (∀ b, b < k → kBy D b 0 ≠ q) → f_X11_isHost_2 M n 0 (nI q) (nI k) = some (if hoB D q = true then 1 else 0) := by
    intro n
    induction n with
    | zero => intro k h1 h2; omega
    | succ n ih =>
      intro k h1 h2 hz
      show s_X11_isHost_2 M (f_X11_isHost_2 M n) 0 (nI q) (nI k) = _
      unfold s_X11_isHost_2
      rw [oR, gd_t, rr_17 h.1, bd_t, aB_l (i := 4) zR_7 (by decide), gd_t, h.nb]
      by_cases e : k = kNb D
      · subst e
        rw [if_pos (nI_le (Nat.le_refl _) (by omega)), if_neg]
        intro z
        obtain ⟨b, b1, b2⟩ := hoB_iff.mp z
        exact hz b b1 b2
      have hk : k < kNb D := by omega
      have hby := hW.2.2.2.2.2.2 k hk
      have hkP := hW.p
      rw [if_neg (nI_ge hk (by omega)), rr_20 h.1, bd_t, m4_0, aB_t (4 * k) zR_10 rfl (by omega) (by decide), gd_t, nI_clamp (by omega), show gI M 10 (4 * k) = nI (kBy D k 0) from h.by hk (j := 0) (by decide), nI_1]
      by_cases c : kBy D k 0 = q
      · rw [if_pos (by rw [c]), if_pos (hoB_iff.mpr ⟨k, hk, c⟩)]
      · rw [if_neg (fun z => c ((nI_eq (by omega) (by omega)).mp z))]
        exact ih (k + 1) (by omega) (by omega) (fun b hb => by
          by_cases e2 : b = k
          · rw [e2]; exact c
          · exact hz b (by omega))
  exact key FU 0 (by omega) (by unfold FU; omega) (fun b hb => by omega)
theorem rides_eq (h : RC M D) (hP0 : 0 < kP D) {s : Nat} (hs : s < kNs D) : ∀ n M1 T k, k ≤ kMi D → kMi D < n + k → (OnlyK in35 M M1 ∧ TqS M1 D 35 T) → ∃ M', (OnlyK in35 M M' ∧ TqS M' D 35 (foS (fun m2 T => upT (kPl D s m2) m2 T) (kMi D - k) k T)) ∧ f_X11_rides_4 n M1 0 (nI s) (nI k) = some M' := by
  have hW := h.2.1
  have hn := hW.n
  have hMi := hW.mi
  have hkP := hW.p
  refine memfold2 (F := fun n M1 (_ : Nat → Nat) k => f_X11_rides_4 n M1 0 (nI s) k) (g := fun m2 T => upT (kPl D s m2) m2 T) (R := fun M' _ => some M') (I := fun M1 T => OnlyK in35 M M1 ∧ TqS M1 D 35 T) (fun n M1 T m hm hM => ?_) (fun n M1 T hM => ?_)
  · obtain ⟨hO, hT⟩ := hM
    have h1 := h.on345 (in35_5 hO)
    have hpl := kPl_lt (D := D) hP0 s m
    have hTq := hT (kPl D s m) hpl
    show ∃ M', _ ∧ s_X11_rides_4 (f_X11_rides_4 n) M1 0 (nI s) (nI m) = f_X11_rides_4 n M' 0 (nI s) (nI (m + 1))
    unfold s_X11_rides_4
    rw [oR, gd_t, rr_17 h1.1, bd_t, aB_l (i := 1) zR_7 (by decide), gd_t, h1.mi, if_neg (nI_ge hm (by omega)), placeOf_eq h1 hs hm, bd_t, rr_53 h1.1, bd_t, aB_t (kPl D s m) zR_35 rfl (by omega) (by decide), gd_t, nI_clamp (by omega), hTq.1, nI_1]
    by_cases c : T (kPl D s m) ≤ m
    · rw [if_pos (nI_le c (by omega))]
      refine ⟨M1, ⟨hO, fun q hq => ?_⟩, rfl⟩
      have e : upT (kPl D s m) m T q = T q := by
        unfold upT
        rw [if_neg (fun z => by rw [z.1] at z; omega)]
      rw [e]
      exact hT q hq
    · rw [if_neg (nI_ge (by omega) (by omega)), nx_t]
      refine ⟨_, ⟨hO.I rfl, fun q hq => ?_⟩, rfl⟩
      rw [gI_sI]
      unfold upT
      by_cases e : q = kPl D s m
      · rw [if_pos ⟨rfl, e⟩, if_pos ⟨e, by rw [e]; omega⟩]
        exact ⟨rfl, Or.inl hm⟩
      · rw [if_neg (fun z => e z.2), if_neg (fun z => e z.1)]
        exact hT q hq
  · have h1 := h.on345 (in35_5 hM.1)
    show s_X11_rides_4 (f_X11_rides_4 n) M1 0 (nI s) (nI (kMi D)) = _
    unfold s_X11_rides_4
    rw [oR, gd_t, rr_17 h1.1, bd_t, aB_l (i := 1) zR_7 (by decide), gd_t, h1.mi, if_pos (nI_le (Nat.le_refl _) (by omega))]
theorem go89 (h : RC M D) (hP0 : 0 < kP D) {q m1 : Nat} {x : Int32} (hq : q < kP D) (hm : m1 < kMi D) (k32 : Mem → Nat → Int32 → Int32 → Option Mem) (k76 : Mem → Nat → Int32 → Int32 → Int32 → Option Mem) : ∀ n M1 T k, k ≤ kNs D → kNs D < n + k → (OnlyK in35 M M1 ∧ TqS M1 D 35 T) → ∃ M', (OnlyK in35 M M' ∧ TqS M' D 35 (foS (fun s T => if kPl D s m1 = q then rdT D s m1 T else T) (kNs D - k) k T)) ∧ f_X11_goesOn_89 k32 k76 n M1 0 x (nI q) (nI m1) (nI k) = k76 M' 0 x (nI q) (nI (m1 + 1)) := by
  have hW := h.2.1
  have hn := hW.n
  have hMi := hW.mi
  have hkP := hW.p
  refine memfold2 (F := fun n M1 (_ : Nat → Nat) k => f_X11_goesOn_89 k32 k76 n M1 0 x (nI q) (nI m1) k) (g := fun s T => if kPl D s m1 = q then rdT D s m1 T else T) (R := fun M' _ => k76 M' 0 x (nI q) (nI (m1 + 1))) (I := fun M1 T => OnlyK in35 M M1 ∧ TqS M1 D 35 T) (fun n M1 T s hs hM => ?_) (fun n M1 T hM => ?_)
  · obtain ⟨hO, hT⟩ := hM
    have h1 := h.on345 (in35_5 hO)
    have hpl := kPl_lt (D := D) hP0 s m1
    show ∃ M', _ ∧ s_X11_goesOn_89 k32 k76 (f_X11_goesOn_89 k32 k76 n) M1 0 x (nI q) (nI m1) (nI s) = f_X11_goesOn_89 k32 k76 n M' 0 x (nI q) (nI m1) (nI (s + 1))
    unfold s_X11_goesOn_89
    rw [oR, gd_t, rr_17 h1.1, bd_t, aB_l (i := 3) zR_7 (by decide), gd_t, h1.ns, if_neg (nI_ge hs (by omega)), placeOf_eq h1 hs hm, bd_t, nI_1]
    by_cases c : kPl D s m1 = q
    · obtain ⟨M', a1, a2⟩ := rides_eq h1 hP0 hs FU M1 T (m1 + 1) (by omega) (by unfold FU; omega) ⟨OnlyK.rf, hT⟩
      have a2' : f_X11_rides M1 0 (nI s) (nI m1) = some M' := by
        unfold f_X11_rides
        rw [nI_1]
        exact a2
      rw [if_pos (show nI (kPl D s m1) = nI q by rw [c]), a2', bd_t, if_pos c]
      exact ⟨M', ⟨hO.tr a1.1, a1.2⟩, rfl⟩
    · rw [if_neg (fun z => c ((nI_eq (by omega) (by omega)).mp z)), if_neg c]
      exact ⟨M1, ⟨hO, hT⟩, rfl⟩
  · have h1 := h.on345 (in35_5 hM.1)
    show s_X11_goesOn_89 k32 k76 (f_X11_goesOn_89 k32 k76 n) M1 0 x (nI q) (nI m1) (nI (kNs D)) = _
    unfold s_X11_goesOn_89
    rw [oR, gd_t, rr_17 h1.1, bd_t, aB_l (i := 3) zR_7 (by decide), gd_t, h1.ns, if_pos (nI_le (Nat.le_refl _) (by omega)), nI_1]
theorem go76 (h : RC M D) (hP0 : 0 < kP D) {q : Nat} {x : Int32} (hq : q < kP D) (k32 : Mem → Nat → Int32 → Int32 → Option Mem) : ∀ n M1 T k, k ≤ kMi D → kMi D < n + k → (OnlyK in35 M M1 ∧ TqS M1 D 35 T) → ∃ M', (OnlyK in35 M M' ∧ TqS M' D 35 (foS (fun m1 T => slT D q m1 T) (kMi D - k) k T)) ∧ f_X11_goesOn_76 k32 n M1 0 x (nI q) (nI k) = k32 M' 0 x (nI (q + 1)) := by
  have hW := h.2.1
  have hn := hW.n
  have hMi := hW.mi
  have hkP := hW.p
  refine memfold2 (F := fun n M1 (_ : Nat → Nat) k => f_X11_goesOn_76 k32 n M1 0 x (nI q) k) (g := fun m1 T => slT D q m1 T) (R := fun M' _ => k32 M' 0 x (nI (q + 1))) (I := fun M1 T => OnlyK in35 M M1 ∧ TqS M1 D 35 T) (fun n M1 T m hm hM => ?_) (fun n M1 T hM => ?_)
  · obtain ⟨hO, hT⟩ := hM
    have h1 := h.on345 (in35_5 hO)
    obtain ⟨M', a1, a2⟩ := go89 h1 hP0 (x := x) hq hm k32 (f_X11_goesOn_76 k32 n) FU M1 T 0 (by omega) (by unfold FU; omega) ⟨OnlyK.rf, hT⟩
    refine ⟨M', ⟨hO.tr a1.1, a1.2⟩, ?_⟩
    show s_X11_goesOn_76 k32 (f_X11_goesOn_76 k32 n) M1 0 x (nI q) (nI m) = _
    unfold s_X11_goesOn_76
    rw [oR, gd_t, rr_17 h1.1, bd_t, aB_l (i := 1) zR_7 (by decide), gd_t, h1.mi, if_neg (nI_ge hm (by omega))]
    exact a2
  · have h1 := h.on345 (in35_5 hM.1)
    show s_X11_goesOn_76 k32 (f_X11_goesOn_76 k32 n) M1 0 x (nI q) (nI (kMi D)) = _
    unfold s_X11_goesOn_76
    rw [oR, gd_t, rr_17 h1.1, bd_t, aB_l (i := 1) zR_7 (by decide), gd_t, h1.mi, if_pos (nI_le (Nat.le_refl _) (by omega)), nI_1]
theorem go32 (h : RC M D) (hP0 : 0 < kP D) {T0 : Nat → Nat} (h34 : TqS M D 34 T0) (hf : f < kP D) : ∀ n M1 T k, k ≤ kP D → kP D < n + k → (OnlyK in35 M M1 ∧ TqS M1 D 35 T) → ∃ M', (OnlyK in35 M M' ∧ TqS M' D 35 (foS (goP D f T0) (kP D - k) k T)) ∧ f_X11_goesOn_32 n M1 0 (nI f) (nI k) = f_X11_goesOn_138 FU M' 0 (nI 0) := by
  have hW := h.2.1
  have hn := hW.n
  have hMi := hW.mi
  have hkP := hW.p
  refine memfold2 (F := fun n M1 (_ : Nat → Nat) k => f_X11_goesOn_32 n M1 0 (nI f) k) (g := goP D f T0) (R := fun M' _ => f_X11_goesOn_138 FU M' 0 (nI 0)) (I := fun M1 T => OnlyK in35 M M1 ∧ TqS M1 D 35 T) (fun n M1 T q hq hM => ?_) (fun n M1 T hM => ?_)
  · obtain ⟨hO, hT⟩ := hM
    have h1 := h.on345 (in35_5 hO)
    have e34 : gI M1 34 q = nI (T0 q) := by
      rw [hO.2 _ _ (by unfold in35; omega)]
      exact (h34 q hq).1
    have hv := (h34 q hq).2
    show ∃ M', _ ∧ s_X11_goesOn_32 (f_X11_goesOn_32 n) M1 0 (nI f) (nI q) = f_X11_goesOn_32 n M' 0 (nI f) (nI (q + 1))
    unfold s_X11_goesOn_32 goP
    rw [oR, gd_t, rr_17 h1.1, bd_t, aB_l (i := 0) zR_7 (by decide), gd_t, h1.np, if_neg (nI_ge hq (by omega)), rr_52 h1.1, bd_t, aB_t q zR_34 rfl (by omega) (by decide), gd_t, nI_clamp (by omega), e34, nI_1]
    by_cases c1 : T0 q = 1000000
    · rw [if_pos (show nI (T0 q) = 1000000 by rw [c1]; rfl), if_pos (Or.inl c1)]
      exact ⟨M1, ⟨hO, hT⟩, rfl⟩
    have hvl : T0 q < kMi D := by omega
    rw [if_neg (show ¬ nI (T0 q) = 1000000 from nI_mil (by omega))]
    obtain ⟨M', a1, a2⟩ := go76 h1 hP0 (x := nI f) hq (f_X11_goesOn_32 n) FU M1 T (T0 q) (by omega) (by unfold FU; omega) ⟨OnlyK.rf, hT⟩
    by_cases c2 : q = f
    · rw [if_pos (show nI q = nI f by rw [c2]), if_neg (show ¬ (T0 q = 1000000 ∨ okB D f q = false) from fun z => z.elim c1 (fun y => by
        rw [c2] at y
        simp [okB] at y))]
      exact ⟨M', ⟨hO.tr a1.1, a1.2⟩, a2⟩
    · have ok : okB D f q = hoB D q := by simp [okB, c2]
      rw [if_neg (fun z => c2 ((nI_eq (by omega) (by omega)).mp z)), isHost_eq h1 (by omega), bd_t, ok]
      by_cases c3 : hoB D q = true
      · rw [if_pos c3, if_neg (show ¬ (1 : Int32) = 0 by decide), if_neg (show ¬ (T0 q = 1000000 ∨ hoB D q = false) from fun z => z.elim c1 (fun y => by rw [c3] at y; cases y))]
        exact ⟨M', ⟨hO.tr a1.1, a1.2⟩, a2⟩
      · rw [if_neg c3, if_pos rfl, if_pos (show T0 q = 1000000 ∨ hoB D q = false from Or.inr (by simpa using c3))]
        exact ⟨M1, ⟨hO, hT⟩, rfl⟩
  · have h1 := h.on345 (in35_5 hM.1)
    show s_X11_goesOn_32 (f_X11_goesOn_32 n) M1 0 (nI f) (nI (kP D)) = _
    unfold s_X11_goesOn_32
    rw [oR, gd_t, rr_17 h1.1, bd_t, aB_l (i := 0) zR_7 (by decide), gd_t, h1.np, if_pos (nI_le (Nat.le_refl _) (by omega))]
    rfl
theorem go138 (h : RC M D) {T : Nat → Nat} (h35 : TqS M D 35 T) : ∀ n k M1, k ≤ kP D → kP D < n + k → OnlyK (fun a _ => a = 34) M M1 → (∀ q, q < k → gI M1 34 q = nI (T q)) → ∃ M', f_X11_goesOn_138 n M1 0 (nI k) = some M' ∧ OnlyK (fun a _ => a = 34) M M' ∧ ∀ q, q < kP D → gI M' 34 q = nI (T q) := by
  have hW := h.2.1
  have hkP := hW.p
  intro n
  induction n with
  | zero => intro k M1 h1 h2; omega
  | succ n ih =>
    intro k M1 hk1 h2 hO hz
    have h1 := h.on345 (hO.mono (fun _ _ z => Or.inl z))
    show ∃ M', s_X11_goesOn_138 (f_X11_goesOn_138 n) M1 0 (nI k) = _ ∧ _
    unfold s_X11_goesOn_138
    rw [oR, gd_t, rr_17 h1.1, bd_t, aB_l (i := 0) zR_7 (by decide), gd_t, h1.np]
    by_cases e : k = kP D
    · subst e
      rw [if_pos (nI_le (Nat.le_refl _) (by omega))]
      exact ⟨M1, rfl, hO, hz⟩
    rw [if_neg (nI_ge (by omega) (by omega)), rr_52 h1.1, bd_t, rr_53 h1.1, bd_t, aB_t k zR_35 rfl (by omega) (by decide), gd_t, aB_t k zR_34 rfl (by omega) (by decide), gd_t, nx_t, nI_clamp (by omega), hO.2 35 k (by omega), (h35 k (by omega)).1, nI_1]
    exact ih (k + 1) _ (by omega) (by omega) (hO.I rfl) (fun q hq => by
      rw [gI_sI]
      by_cases e2 : q = k
      · rw [if_pos ⟨rfl, e2⟩, e2]
      · rw [if_neg (fun z => e2 z.2)]
        exact hz q (by omega))
theorem go2 (h : RC M D) {T : Nat → Nat} (h34 : TqS M D 34 T) {x : Int32} : ∀ n k M1, k ≤ kP D → kP D < n + k → OnlyK in35 M M1 → (∀ q, q < k → gI M1 35 q = nI (T q)) → ∃ M', f_X11_goesOn_2 n M1 0 x (nI k) = f_X11_goesOn_32 FU M' 0 x 0 ∧ OnlyK in35 M M' ∧ ∀ q, q < kP D → gI M' 35 q = nI (T q) := by
  have hW := h.2.1
  have hkP := hW.p
  intro n
  induction n with
  | zero => intro k M1 h1 h2; omega
  | succ n ih =>
    intro k M1 hk1 h2 hO hz
    have h1 := h.on345 (in35_5 hO)
    show ∃ M', s_X11_goesOn_2 (f_X11_goesOn_2 n) M1 0 x (nI k) = _ ∧ _
    unfold s_X11_goesOn_2
    rw [oR, gd_t, rr_17 h1.1, bd_t, aB_l (i := 0) zR_7 (by decide), gd_t, h1.np]
    by_cases e : k = kP D
    · subst e
      rw [if_pos (nI_le (Nat.le_refl _) (by omega))]
      exact ⟨M1, rfl, hO, hz⟩
    rw [if_neg (nI_ge (by omega) (by omega)), rr_53 h1.1, bd_t, rr_52 h1.1, bd_t, aB_t k zR_34 rfl (by omega) (by decide), gd_t, aB_t k zR_35 rfl (by omega) (by decide), gd_t, nx_t, nI_clamp (by omega), hO.2 34 k (by unfold in35; omega), (h34 k (by omega)).1, nI_1]
    exact ih (k + 1) _ (by omega) (by omega) (hO.I rfl) (fun q hq => by
      rw [gI_sI]
      by_cases e2 : q = k
      · rw [if_pos ⟨rfl, e2⟩, e2]
      · rw [if_neg (fun z => e2 z.2)]
        exact hz q (by omega))
theorem goesOn_eq (h : RC M D) (hf : f < kP D) {T : Nat → Nat} (h34 : TqS M D 34 T) : ∃ M', f_X11_goesOn M 0 (nI f) = some M' ∧ OnlyK in345 M M' ∧ TqS M' D 34 (goT D f T) := by
  have hkP := h.2.1.p
  obtain ⟨Ma, a1, a2, a3⟩ := go2 h h34 (x := nI f) FU 0 M (by omega) (by unfold FU; omega) OnlyK.rf (fun q hq => by omega)
  have ha := h.on345 (in35_5 a2)
  have h34a : TqS Ma D 34 T := fun q hq => by
    rw [a2.2 _ _ (by unfold in35; omega)]
    exact h34 q hq
  obtain ⟨Mb, ⟨b1, b2⟩, b3⟩ := go32 ha (by omega) h34a hf FU Ma T 0 (by omega) (by unfold FU; omega) ⟨OnlyK.rf, fun q hq => ⟨a3 q hq, (h34 q hq).2⟩⟩
  have hb := ha.on345 (in35_5 b1)
  obtain ⟨Mc, c1, c2, c3⟩ := go138 hb (T := goT D f T) b2 FU 0 Mb (by omega) (by unfold FU; omega) OnlyK.rf (fun q hq => by omega)
  refine ⟨Mc, ?_, ((in35_5 a2).tr (in35_5 b1)).tr (c2.mono (fun _ _ z => Or.inl z)), fun q hq => ⟨c3 q hq, (b2 q hq).2⟩⟩
  unfold f_X11_goesOn
  have a1' : f_X11_goesOn_2 FU M 0 (nI f) 0 = _ := a1
  have b3' : f_X11_goesOn_32 FU Ma 0 (nI f) 0 = _ := b3
  rw [a1', b3']
  exact c1
theorem sends_eq (hR : RR M) (hW : WFD D) (hm : RM M 0 D) (hf : f < kP D) (h0 : m0 < kMi D) : ∃ M', f_X11_sends M 0 (nI f) (nI m0) = some M' ∧ KeepR M M' ∧ RC M' D ∧ TqS M' D 34 (sT D f m0 0) := by
  have hMi := hW.mi
  have hkP := hW.p
  obtain ⟨Ma, a1, a2, a3⟩ := asTold_eq hR hW hm
  have key : ∀ n k M1, k ≤ 12 → 12 < n + k → OnlyK in345 Ma M1 → (∀ q, q < k → gI M1 34 q = nI (sT D f m0 0 q)) → ∃ M', f_X11_sends_6 n M1 0 (nI f) (nI m0) (nI k) = some M' ∧ OnlyK in345 Ma M' ∧ ∀ q, q < 12 → gI M' 34 q = nI (sT D f m0 0 q) := by
    intro n
    induction n with
    | zero => intro k M1 h1 h2; omega
    | succ n ih =>
      intro k M1 h1 h2 hO hz
      show ∃ M', s_X11_sends_6 (f_X11_sends_6 n) M1 0 (nI f) (nI m0) (nI k) = _ ∧ _
      unfold s_X11_sends_6
      by_cases e : k = 12
      · subst e
        rw [if_pos (by decide)]
        exact ⟨M1, rfl, hO, hz⟩
      rw [if_neg (show ¬ (12 : Int32) ≤ nI k from nI_ge (b := 12) (by omega) (by decide)), oR, gd_t, rr_52 (hO.RR a3.1), bd_t, aB_t k zR_34 rfl (by omega) (by decide), gd_t, gd_t, nx_t, nx_t, nI_clamp (by omega), nI_1]
      have st : ∀ v, v = nI (sT D f m0 0 k) → ∃ M', f_X11_sends_6 n (sI M1 34 k v) 0 (nI f) (nI m0) (nI (k + 1)) = some M' ∧ OnlyK in345 Ma M' ∧ ∀ q, q < 12 → gI M' 34 q = nI (sT D f m0 0 q) := fun v hv => ih (k + 1) _ (by omega) (by omega) (hO.I (Or.inl rfl)) (fun q hq => by
        rw [gI_sI]
        by_cases e2 : q = k
        · rw [if_pos ⟨rfl, e2⟩, e2, hv]
        · rw [if_neg (fun z => e2 z.2)]
          exact hz q (by omega))
      by_cases c : k = f
      · rw [if_pos (by rw [c])]
        exact st _ (by
          show _ = nI (if k = f then m0 else 1000000)
          rw [if_pos c])
      · rw [if_neg (fun z => c ((nI_eq (by omega) (by omega)).mp z))]
        exact st _ (by
          show _ = nI (if k = f then m0 else 1000000)
          rw [if_neg c]
          rfl)
  obtain ⟨Mb, b1, b2, b3⟩ := key FU 0 Ma (by omega) (by decide) OnlyK.rf (fun q hq => by omega)
  refine ⟨Mb, ?_, a2.tr (keep345 b2 a3.1), a3.on345 b2, fun q hq => ⟨b3 q (by omega), ?_⟩⟩
  · unfold f_X11_sends
    rw [oR, gd_t, a1, bd_t]
    exact b1
  · exact sT_val (by omega) hMi h0 0
end RP
