/-! WHAT HOLDS OF SALES -/
def IvY (D : MK) (k : Nat) (H : HS) : Prop := (∀ i, i < H 8 0 0 → H 9 i 1 < kNs D ∧ H 9 i 2 < kNb D ∧ H 9 i 0 < k ∧ H 9 i 3 ≤ 99) ∧ (∀ i, i + 1 < H 8 0 0 → H 9 i 0 ≤ H 9 (i + 1) 0) ∧ ∀ b, b < kNb D → (H 7 b 0 = 0 ↔ 0 < lkS H b (kBy D b 3))
theorem lkS_cong {H H' : HS} {b : Nat} : ∀ n, (∀ w, w < n → H' 5 b w = H 5 b w) → lkS H' b n = lkS H b n
  | 0, _ => rfl
  | n + 1, h => by
    unfold lkS
    rw [lkS_cong n (fun w hw => h w (by omega)), h n (by omega)]
theorem lkS_pos {H : HS} {b w : Nat} : ∀ {n}, w < n → H 5 b w ≤ lkS H b n
  | 0, h => by omega
  | n + 1, h => by
    unfold lkS
    by_cases e : w = n
    · subst e; omega
    · have := lkS_pos (H := H) (b := b) (w := w) (n := n) (by omega)
      omega
theorem IvY.cong {D : MK} {k k' : Nat} {H H' : HS} (h : IvY D k H) (hk : k ≤ k') (e : ∀ t i j, t = 5 ∨ t = 7 ∨ t = 8 ∨ t = 9 → H' t i j = H t i j) : IvY D k' H' := by
  obtain ⟨a, b, c⟩ := h
  refine ⟨fun i hi => ?_, fun i hi => ?_, fun x hx => ?_⟩
  · rw [e 8 _ _ (by decide)] at hi
    rw [e 9 _ _ (by decide), e 9 _ _ (by decide), e 9 _ _ (by decide), e 9 _ _ (by decide)]
    have := a i hi
    omega
  · rw [e 8 _ _ (by decide)] at hi
    rw [e 9 _ _ (by decide), e 9 _ _ (by decide)]
    exact b i hi
  · rw [e 7 _ _ (by decide), lkS_cong (H := H) _ (fun w _ => e 5 _ _ (by decide))]
    exact c x hx
theorem IvY.mt {D : MK} {m s b : Nat} {H : HS} (h : IvY D (m + 1) H) (hv : IvH D m H) (hs : s < kNs D) (hb : b < kNb D) : IvY D (m + 1) (mtS D m s b H) := by
  unfold mtS
  split
  · exact h
  · rename_i w hw
    have hw3 := (kWo_lt hw).1
    split
    · exact h
    · rename_i c1
      split
      · exact h.cong (Nat.le_refl _) (fun t i j ht => by
          unfold drS
          rw [if_neg (by omega)])
      · split
        · obtain ⟨a, bb, c⟩ := h
          have e8 : slS D H m s b w 8 0 0 = H 8 0 0 + 1 := by simp [slS]
          have e9 : ∀ i, i < H 8 0 0 → ∀ j, slS D H m s b w 9 i j = H 9 i j := fun i hi j => by
            have : i ≠ H 8 0 0 := by omega
            simp [slS, this]
          have e9n : slS D H m s b w 9 (H 8 0 0) 0 = m ∧ slS D H m s b w 9 (H 8 0 0) 1 = s ∧ slS D H m s b w 9 (H 8 0 0) 2 = b ∧ slS D H m s b w 9 (H 8 0 0) 3 = H 0 s 0 := by simp [slS]
          have hp := (hv.1 s hs).1
          refine ⟨fun i hi => ?_, fun i hi => ?_, fun x hx => ?_⟩
          · rw [e8] at hi
            by_cases e : i = H 8 0 0
            · subst e
              rw [e9n.1, e9n.2.1, e9n.2.2.1, e9n.2.2.2]
              omega
            · rw [e9 i (by omega), e9 i (by omega), e9 i (by omega), e9 i (by omega)]
              exact a i (by omega)
          · rw [e8] at hi
            by_cases e : i + 1 = H 8 0 0
            · rw [e9 i (by omega), e, e9n.1]
              have := (a i (by omega)).2.2.1
              omega
            · rw [e9 i (by omega), e9 (i + 1) (by omega)]
              exact bb i (by omega)
          · by_cases e : x = b
            · subst e
              have e5 : lkS (slS D H m s x w) x (kBy D x 3) = lkS (slL H x w) x (kBy D x 3) := lkS_cong _ (fun v _ => by
                unfold slS slL
                by_cases q : v = w
                · subst q
                  rw [if_pos ⟨rfl, rfl, rfl⟩, if_pos ⟨rfl, rfl, rfl⟩]
                · rw [if_neg (by omega), if_neg (by omega), if_neg (by omega), if_neg (by omega), if_neg (by omega), if_neg (by omega), if_neg (by omega), if_neg (by omega), if_neg (by omega), if_neg (by omega)])
              have e7 : slS D H m s x w 7 x 0 = if lkS (slL H x w) x (kBy D x 3) = 0 then m + 1 else H 7 x 0 := by simp [slS]
              have h5 := lkS_pos (H := H) (b := x) hw3
              have h7 := (c x hx).mpr (by omega)
              rw [e5, e7]
              by_cases q : lkS (slL H x w) x (kBy D x 3) = 0
              · rw [if_pos q]
                omega
              · rw [if_neg q]
                omega
            · have e5 : lkS (slS D H m s b w) x (kBy D x 3) = lkS H x (kBy D x 3) := lkS_cong _ (fun v _ => by simp [slS, e])
              have e7 : slS D H m s b w 7 x 0 = H 7 x 0 := by simp [slS, e]
              rw [e5, e7]
              exact c x hx
        · exact h
theorem iy_trB {D : MK} {m p s : Nat} {H : HS} (h : IvY D (m + 1) H) (hv : IvJ D m H) (hW : WFD D) (hs : s < kNs D) (hm : m ≤ 60) : ∀ k, k ≤ kNb D → IvY D (m + 1) (trB D m p s H k)
  | 0, _ => h
  | k + 1, hk => by
    unfold trB
    split
    · exact (iy_trB h hv hW hs hm k (by omega)).mt (jv_trB hv hW hs hm k (by omega)).1 hs (by omega)
    · exact iy_trB h hv hW hs hm k (by omega)
theorem iy_trS {D : MK} {m p : Nat} {H : HS} (h : IvY D (m + 1) H) (hv : IvJ D m H) (hW : WFD D) (hm : m ≤ 60) : ∀ k, k ≤ kNs D → IvY D (m + 1) (trS D m p H k)
  | 0, _ => h
  | k + 1, hk => by
    unfold trS
    split
    · exact iy_trB (iy_trS h hv hW hm k (by omega)) (jv_trS hv hW hm k (by omega)) hW (by omega) hm _ (Nat.le_refl _)
    · exact iy_trS h hv hW hm k (by omega)
theorem iy_trP {D : MK} {m : Nat} {H : HS} (h : IvY D (m + 1) H) (hv : IvJ D m H) (hW : WFD D) (hm : m ≤ 60) : ∀ k, IvY D (m + 1) (trP D m H k)
  | 0 => h
  | k + 1 => by
    unfold trP
    exact iy_trS (iy_trP h hv hW hm k) (jv_trP hv hW hm k) hW hm _ (Nat.le_refl _)
theorem iy_hr {D : MK} (hW : WFD D) : ∀ m, m ≤ 60 → IvY D m (hrS D m)
  | 0, _ => by
    refine ⟨fun i hi => ?_, fun i hi => ?_, fun b hb => ?_⟩
    · simp [hrS, bgS] at hi
    · simp [hrS, bgS] at hi
    · have hby := hW.2.2.2.2.2.2 b hb
      have := lkS_bg (D := D) (b := b) (kBy D b 3) (Nat.le_refl _) (fun w q => (hby.2.2.2.2.1 w q).2.1)
      by_cases e : kBy D b 3 = 0
      · have e7 : hrS D 0 7 b 0 = 1 := by simp [hrS, bgS, e]
        rw [e7, e]
        simp [lkS]
      · have e7 : hrS D 0 7 b 0 = 0 := by simp [hrS, bgS, e]
        rw [e7]
        show 0 = 0 ↔ 0 < lkS (bgS D) b (kBy D b 3)
        omega
  | m + 1, hm => by
    have h1 := iy_hr hW m (by omega)
    have h2 : IvY D (m + 1) (opS D m (hrS D m)) := h1.cong (by omega) (fun t i j ht => by
      unfold opS
      rw [if_neg (by omega), if_neg (by omega), if_neg (by omega)])
    have h3 := iy_trP h2 (jv_hr hW (by omega)) hW (by omega) (kP D)
    show IvY D (m + 1) (clS D m _)
    exact h3.cong (Nat.le_refl _) (fun t i j ht => by
      unfold clS
      rw [if_neg (by omega), if_neg (by omega), if_neg (by omega)])
theorem n_hr {D : MK} (hW : WFD D) (m : Nat) : hrS D m 8 0 0 ≤ 160 := by
  have h1 := (iv_hr hW m).2.2.1
  have h2 := pcS_le hW (kNs D) (Nat.le_refl _)
  have := hW.n
  omega
theorem acc_loop {σ τ : Type} {F : Nat → σ → Int32 → τ} {A : Nat → σ} {N : Nat} {R : σ → τ} (step : ∀ n k, k < N → F (n + 1) (A k) (nI k) = F n (A (k + 1)) (nI (k + 1))) (stop : ∀ n, F (n + 1) (A N) (nI N) = R (A N)) : ∀ n k, k ≤ N → N < n + k → F n (A k) (nI k) = R (A N) := by
  intro n
  induction n with
  | zero => intro k h1 h2; omega
  | succ n ih =>
    intro k h1 h2
    by_cases hk : k = N
    · subst hk
      exact stop n
    · rw [step n k (by omega)]
      exact ih (k + 1) (by omega) (by omega)
/-- what is known where the class's hour of D lies at the market p -/
def EH (M : Mem) (p : Nat) (D : MK) : Prop := CR M ∧ p ∈ MB ∧ WFD D ∧ CM M p D ∧ HourC M p D ∧ 0 < kMi D
section SU
variable {M : Mem} {p : Nat} {D : MK}
theorem EH.n (e : EH M p D) : hrS D (kMi D) 8 0 0 ≤ 160 := n_hr e.2.2.1 _
theorem EH.sl (e : EH M p D) {i : Nat} (hi : i < hrS D (kMi D) 8 0 0) : hrS D (kMi D) 9 i 1 < kNs D ∧ hrS D (kMi D) 9 i 2 < kNb D ∧ hrS D (kMi D) 9 i 0 < kMi D ∧ hrS D (kMi D) 9 i 3 ≤ 99 := (iy_hr e.2.2.1 _ e.2.2.1.mi).1 i hi
theorem EH.g4 (e : EH M p D) : gI M 84 4 = nI (hrS D (kMi D) 8 0 0) := e.2.2.2.2.1.2.2.2.1.1
theorem EH.sa (e : EH M p D) {i : Nat} (hi : i < hrS D (kMi D) 8 0 0) : gI M 124 i = nI (hrS D (kMi D) 9 i 0) ∧ gI M 125 i = nI (hrS D (kMi D) 9 i 1) ∧ gI M 126 i = nI (hrS D (kMi D) 9 i 2) ∧ gI M 127 i = nI (hrS D (kMi D) 9 i 3) := e.2.2.2.2.1.2.2.2.1.2.2.2 i hi
theorem salesAt_eq (e : EH M p D) {s : Nat} (hs : s < kNs D) : f_X3_salesAt M 84 (nI s) = some (nI (ctS (hrS D (kMi D)) s (hrS D (kMi D) 8 0 0))) := by
  have hn := e.n
  have hb := e.2.2.1.n
  have key := acc_loop (F := fun n c k => f_X3_salesAt_4 M n 84 (nI s) c k) (A := fun k => nI (ctS (hrS D (kMi D)) s k)) (N := hrS D (kMi D) 8 0 0) (R := some) (fun n k hk => by
    show s_X3_salesAt_4 M (f_X3_salesAt_4 M n) 84 (nI s) _ (nI k) = _
    obtain ⟨x1, x2, x3, x4⟩ := e.sa hk
    have hsl := e.sl hk
    unfold s_X3_salesAt_4
    rw [oC_84, gd_t, e.g4, if_neg (nI_ge hk (by omega)), cr_84_6 e.1, bd_t, aB_t k zC_125 rfl (by omega) (by decide), gd_t, nI_clamp (by omega), x2, ctS_s, nI_1, nI_1]
    by_cases q : hrS D (kMi D) 9 k 1 = s
    · rw [if_pos (by rw [q]), if_pos q]
    · rw [if_neg (fun z => q ((nI_eq (by omega) (by omega)).mp z)), if_neg q]
      rfl) (fun n => by
    show s_X3_salesAt_4 M (f_X3_salesAt_4 M n) 84 (nI s) _ _ = _
    unfold s_X3_salesAt_4
    rw [oC_84, gd_t, e.g4, if_pos (nI_le (Nat.le_refl _) (by omega))])
  exact key FU 0 (by omega) (by unfold FU; omega)
theorem takenAt_eq (e : EH M p D) {s : Nat} (hs : s < kNs D) : f_X3_takenAt M 84 (nI s) = some (nI (tkS (hrS D (kMi D)) s (hrS D (kMi D) 8 0 0))) := by
  have hn := e.n
  have hb := e.2.2.1.n
  have key := acc_loop (F := fun n c k => f_X3_takenAt_4 M n 84 (nI s) c k) (A := fun k => nI (tkS (hrS D (kMi D)) s k)) (N := hrS D (kMi D) 8 0 0) (R := some) (fun n k hk => by
    show s_X3_takenAt_4 M (f_X3_takenAt_4 M n) 84 (nI s) _ (nI k) = _
    obtain ⟨x1, x2, x3, x4⟩ := e.sa hk
    have hsl := e.sl hk
    unfold s_X3_takenAt_4
    rw [oC_84, gd_t, e.g4, if_neg (nI_ge hk (by omega)), cr_84_6 e.1, bd_t, aB_t k zC_125 rfl (by omega) (by decide), gd_t, nI_clamp (by omega), x2, tkS_s, nI_1]
    by_cases q : hrS D (kMi D) 9 k 1 = s
    · rw [if_pos (by rw [q]), if_pos q, cr_84_8 e.1, bd_t, aB_t k zC_127 rfl (by omega) (by decide), gd_t, x4, nI_add]
    · rw [if_neg (fun z => q ((nI_eq (by omega) (by omega)).mp z)), if_neg q]
      rfl) (fun n => by
    show s_X3_takenAt_4 M (f_X3_takenAt_4 M n) 84 (nI s) _ _ = _
    unfold s_X3_takenAt_4
    rw [oC_84, gd_t, e.g4, if_pos (nI_le (Nat.le_refl _) (by omega))])
  exact key FU 0 (by omega) (by unfold FU; omega)
theorem salesTo_eq (e : EH M p D) {b : Nat} (hs : b < kNb D) : f_X3_salesTo M 84 (nI b) = some (nI (gtS (hrS D (kMi D)) b (hrS D (kMi D) 8 0 0))) := by
  have hn := e.n
  have hb := e.2.2.1.n
  have key := acc_loop (F := fun n c k => f_X3_salesTo_4 M n 84 (nI b) c k) (A := fun k => nI (gtS (hrS D (kMi D)) b k)) (N := hrS D (kMi D) 8 0 0) (R := some) (fun n k hk => by
    show s_X3_salesTo_4 M (f_X3_salesTo_4 M n) 84 (nI b) _ (nI k) = _
    obtain ⟨x1, x2, x3, x4⟩ := e.sa hk
    have hsl := e.sl hk
    unfold s_X3_salesTo_4
    rw [oC_84, gd_t, e.g4, if_neg (nI_ge hk (by omega)), cr_84_7 e.1, bd_t, aB_t k zC_126 rfl (by omega) (by decide), gd_t, nI_clamp (by omega), x3, gtS_s, nI_1, nI_1]
    by_cases q : hrS D (kMi D) 9 k 2 = b
    · rw [if_pos (by rw [q]), if_pos q]
    · rw [if_neg (fun z => q ((nI_eq (by omega) (by omega)).mp z)), if_neg q]
      rfl) (fun n => by
    show s_X3_salesTo_4 M (f_X3_salesTo_4 M n) 84 (nI b) _ _ = _
    unfold s_X3_salesTo_4
    rw [oC_84, gd_t, e.g4, if_pos (nI_le (Nat.le_refl _) (by omega))])
  exact key FU 0 (by omega) (by unfold FU; omega)
theorem paidInAll_eq (e : EH M p D) : f_X3_paidInAll M 84 = some (nI (pdS (hrS D (kMi D)) (hrS D (kMi D) 8 0 0))) := by
  have hn := e.n
  have key := acc_loop (F := fun n c k => f_X3_paidInAll_4 M n 84 c k) (A := fun k => nI (pdS (hrS D (kMi D)) k)) (N := hrS D (kMi D) 8 0 0) (R := some) (fun n k hk => by
    show s_X3_paidInAll_4 M (f_X3_paidInAll_4 M n) 84 _ (nI k) = _
    obtain ⟨x1, x2, x3, x4⟩ := e.sa hk
    unfold s_X3_paidInAll_4
    rw [oC_84, gd_t, e.g4, if_neg (nI_ge hk (by omega)), cr_84_8 e.1, bd_t, aB_t k zC_127 rfl (by omega) (by decide), gd_t, nI_clamp (by omega), x4, pdS_s, nI_1, nI_add]) (fun n => by
    show s_X3_paidInAll_4 M (f_X3_paidInAll_4 M n) 84 _ _ = _
    unfold s_X3_paidInAll_4
    rw [oC_84, gd_t, e.g4, if_pos (nI_le (Nat.le_refl _) (by omega))])
  exact key FU 0 (by omega) (by unfold FU; omega)
theorem firstMinuteAt_eq (e : EH M p D) {s : Nat} (hs : s < kNs D) : f_X3_firstMinuteAt M 84 (nI s) = some (if fsS (hrS D (kMi D)) s (hrS D (kMi D) 8 0 0) = 0 then -1 else nI (fsS (hrS D (kMi D)) s (hrS D (kMi D) 8 0 0) - 1)) := by
  have hn := e.n
  have hb := e.2.2.1.n
  have up : ∀ d k, fsS (hrS D (kMi D)) s k ≠ 0 → fsS (hrS D (kMi D)) s (k + d) = fsS (hrS D (kMi D)) s k := by
    intro d
    induction d with
    | zero => intro k _; rfl
    | succ d ih =>
      intro k h0
      rw [← Nat.add_assoc, fsS_s, ih k h0, if_neg h0]
  have key : ∀ n k, k ≤ hrS D (kMi D) 8 0 0 → hrS D (kMi D) 8 0 0 < n + k → fsS (hrS D (kMi D)) s k = 0 → f_X3_firstMinuteAt_2 M n 84 (nI s) (nI k) = some (if fsS (hrS D (kMi D)) s (hrS D (kMi D) 8 0 0) = 0 then -1 else nI (fsS (hrS D (kMi D)) s (hrS D (kMi D) 8 0 0) - 1)) := by
    intro n
    induction n with
    | zero => intro k h1 h2; omega
    | succ n ih =>
      intro k h1 h2 h0
      show s_X3_firstMinuteAt_2 M (f_X3_firstMinuteAt_2 M n) 84 (nI s) (nI k) = _
      unfold s_X3_firstMinuteAt_2
      rw [oC_84, gd_t, e.g4]
      by_cases hk : k = hrS D (kMi D) 8 0 0
      · rw [if_pos (by rw [hk]; exact nI_le (Nat.le_refl _) (by omega)), ← hk, if_pos h0]
      have hk' : k < hrS D (kMi D) 8 0 0 := by omega
      obtain ⟨x1, x2, x3, x4⟩ := e.sa hk'
      have hsl := e.sl hk'
      rw [if_neg (nI_ge hk' (by omega)), cr_84_6 e.1, bd_t, aB_t k zC_125 rfl (by omega) (by decide), gd_t, nI_clamp (by omega), x2, nI_1]
      have es := fsS_s (H := hrS D (kMi D)) (s := s) (n := k)
      rw [if_pos h0] at es
      by_cases q : hrS D (kMi D) 9 k 1 = s
      · rw [if_pos q] at es
        have e1 := up (hrS D (kMi D) 8 0 0 - (k + 1)) (k + 1) (by omega)
        rw [show k + 1 + (hrS D (kMi D) 8 0 0 - (k + 1)) = hrS D (kMi D) 8 0 0 by omega, es] at e1
        rw [if_pos (by rw [q]), cr_84_5 e.1, bd_t, aB_t k zC_124 rfl (by omega) (by decide), gd_t, x1, e1, if_neg (by omega), Nat.add_sub_cancel]
      · rw [if_neg q] at es
        rw [if_neg (fun z => q ((nI_eq (by omega) (by omega)).mp z))]
        exact ih (k + 1) (by omega) (by omega) es
  exact key FU 0 (by omega) (by unfold FU; omega) rfl
end SU
