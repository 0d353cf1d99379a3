/-! A MINUTE'S TRADE, the reference -/
def IvJ (D : MK) (m : Nat) (H : HS) : Prop := IvH D m H ∧ IvR D H ∧ PrI D m H
theorem IvJ.mt {D : MK} {m s b : Nat} {H : HS} (h : IvJ D m H) (hW : WFD D) (hs : s < kNs D) (hb : b < kNb D) (hm : m ≤ 60) : IvJ D m (mtS D m s b H) := ⟨h.1.mt hW hs hb, h.2.1.mt hm, h.2.2.mt⟩
theorem jv_trB {D : MK} {m p s : Nat} {H : HS} (h : IvJ D m H) (hW : WFD D) (hs : s < kNs D) (hm : m ≤ 60) : ∀ k, k ≤ kNb D → IvJ D m (trB D m p s H k)
  | 0, _ => h
  | k + 1, hk => by
    unfold trB
    split
    · exact (jv_trB h hW hs hm k (by omega)).mt hW hs (by omega) hm
    · exact jv_trB h hW hs hm k (by omega)
theorem jv_trS {D : MK} {m p : Nat} {H : HS} (h : IvJ D m H) (hW : WFD D) (hm : m ≤ 60) : ∀ k, k ≤ kNs D → IvJ D m (trS D m p H k)
  | 0, _ => h
  | k + 1, hk => by
    unfold trS
    split
    · exact jv_trB (jv_trS h hW hm k (by omega)) hW (by omega) hm _ (Nat.le_refl _)
    · exact jv_trS h hW hm k (by omega)
theorem jv_trP {D : MK} {m : Nat} {H : HS} (h : IvJ D m H) (hW : WFD D) (hm : m ≤ 60) : ∀ k, IvJ D m (trP D m H k)
  | 0 => h
  | k + 1 => by
    unfold trP
    exact jv_trS (jv_trP h hW hm k) hW hm _ (Nat.le_refl _)
theorem RC.nb {M : Mem} {D : MK} (h : RC M D) : gI M 7 ((4 : Int32).toNatClampNeg) = nI (kNb D) := h.2.2.1.1.2.2.2.2.2
theorem RC.ns {M : Mem} {D : MK} (h : RC M D) : gI M 7 ((3 : Int32).toNatClampNeg) = nI (kNs D) := h.2.2.1.1.2.2.2.2.1
theorem RC.np {M : Mem} {D : MK} (h : RC M D) : gI M 7 ((0 : Int32).toNatClampNeg) = nI (kP D) := h.2.2.1.1.1
theorem RC.mi {M : Mem} {D : MK} (h : RC M D) : gI M 7 ((1 : Int32).toNatClampNeg) = nI (kMi D) := h.2.2.1.1.2.1
theorem hB_loop {D : MK} {p s m : Nat} {H : HS} (hv : IvJ D m H) (hs : s < kNs D) (hp : p < 100) (hm : m < kMi D) (k10 : Mem → Nat → Int32 → Option Mem) (k71 : Mem → Nat → Int32 → Int32 → Option Mem) (k83 : Mem → Nat → Int32 → Int32 → Int32 → Option Mem) :
    ∀ n k M, k ≤ kNb D → kNb D < n + k → RC M D → RH M D (trB D m p s H k) → ∃ M', f_X11_hour_109 k10 k71 k83 n M 0 (nI m) (nI p) (nI s) (nI k) = k83 M' 0 (nI m) (nI p) (nI (s + 1)) ∧ OnlyK inW M M' ∧ RH M' D (trB D m p s H (kNb D)) := by
  intro n
  induction n with
  | zero => intro k M h1 h2; omega
  | succ n ih =>
    intro k M h1 h2 h hr
    have hW := h.2.1
    have hR := h.1
    have hn := hW.n
    have hMi := hW.mi
    show ∃ M', s_X11_hour_109 k10 k71 k83 (f_X11_hour_109 k10 k71 k83 n) M 0 (nI m) (nI p) (nI s) (nI k) = _ ∧ _
    unfold s_X11_hour_109
    rw [oR, gd_t, rr_17 hR, bd_t, aB_l (i := 4) zR_7 (by decide), gd_t, h.nb]
    by_cases hk : k = kNb D
    · subst hk
      rw [if_pos (nI_le (Nat.le_refl _) (by omega)), nI_1]
      exact ⟨M, rfl, OnlyK.rf, hr⟩
    have hkb : k < kNb D := by omega
    have hby := hW.2.2.2.2.2.2 k hkb
    have hP := hW.p
    rw [if_neg (nI_ge (by omega) (by omega)), rr_20 hR, bd_t, show (4 : Int32) * nI k = nI (4 * k) by rw [show (4 : Int32) = nI 4 from rfl, pk_mul], aB_t (4 * k) zR_10 rfl (by omega) (by decide), gd_t, nI_clamp (by omega), show gI M 10 (4 * k) = nI (kBy D k 0) from h.by hkb (j := 0) (by decide)]
    have hj := jv_trB (p := p) hv hW hs (by omega) k h1
    by_cases e : kBy D k 0 = p
    · obtain ⟨M1, a1, a2, a3⟩ := trades_eq h hr hj.1 hj.2.1 hj.2.2 hs hkb hm
      rw [if_pos (by rw [e]), a1, bd_t, nI_1]
      obtain ⟨M', b1, b2, b3⟩ := ih (k + 1) M1 (by omega) (by omega) (h.onlyW a2) (by unfold trB; rw [if_pos e]; exact a3)
      exact ⟨M', b1, a2.tr b2, b3⟩
    · rw [if_neg (fun z => e ((nI_eq (by omega) (by omega)).mp z)), nI_1]
      exact ih (k + 1) M (by omega) (by omega) h (by unfold trB; rw [if_neg e]; exact hr)
theorem hS_loop {D : MK} {p m : Nat} {H : HS} (hv : IvJ D m H) (hp : p < 100) (hm : m < kMi D) (k10 : Mem → Nat → Int32 → Option Mem) (k71 : Mem → Nat → Int32 → Int32 → Option Mem) :
    ∀ n k M, k ≤ kNs D → kNs D < n + k → RC M D → RH M D (trS D m p H k) → ∃ M', f_X11_hour_83 k10 k71 n M 0 (nI m) (nI p) (nI k) = k71 M' 0 (nI m) (nI (p + 1)) ∧ OnlyK inW M M' ∧ RH M' D (trS D m p H (kNs D)) := by
  intro n
  induction n with
  | zero => intro k M h1 h2; omega
  | succ n ih =>
    intro k M h1 h2 h hr
    have hW := h.2.1
    have hR := h.1
    have hn := hW.n
    have hMi := hW.mi
    show ∃ M', s_X11_hour_83 k10 k71 (f_X11_hour_83 k10 k71 n) M 0 (nI m) (nI p) (nI k) = _ ∧ _
    unfold s_X11_hour_83
    rw [oR, gd_t, rr_17 hR, bd_t, aB_l (i := 3) zR_7 (by decide), gd_t, h.ns]
    by_cases hk : k = kNs D
    · subst hk
      rw [if_pos (nI_le (Nat.le_refl _) (by omega)), nI_1]
      exact ⟨M, rfl, OnlyK.rf, hr⟩
    have hks : k < kNs D := by omega
    have hP := hW.p
    have hpl := kPl_lt (hW.p0 (Or.inl (by omega))) k m
    rw [if_neg (nI_ge (by omega) (by omega)), placeOf_eq h hks hm, bd_t]
    by_cases e : kPl D k m = p
    · rw [if_pos (by rw [e])]
      obtain ⟨M1, a1, a2, a3⟩ := hB_loop (s := k) (jv_trS (p := p) hv hW (by omega) k h1) hks hp hm k10 k71 (f_X11_hour_83 k10 k71 n) FU 0 M (by omega) (by unfold FU; omega) h hr
      rw [show (nI 0 : Int32) = 0 from rfl] at a1
      rw [a1]
      obtain ⟨M', b1, b2, b3⟩ := ih (k + 1) M1 (by omega) (by omega) (h.onlyW a2) (by unfold trS; rw [if_pos e]; exact a3)
      exact ⟨M', b1, a2.tr b2, b3⟩
    · rw [if_neg (fun z => e ((nI_eq (by omega) (by omega)).mp z)), nI_1]
      exact ih (k + 1) M (by omega) (by omega) h (by unfold trS; rw [if_neg e]; exact hr)
theorem hP_loop {D : MK} {m : Nat} {H : HS} (hv : IvJ D m H) (hm : m < kMi D) (k10 : Mem → Nat → Int32 → Option Mem) :
    ∀ n k M, k ≤ kP D → kP D < n + k → RC M D → RH M D (trP D m H k) → ∃ M', f_X11_hour_71 k10 n M 0 (nI m) (nI k) = bd (f_X11_learns M' 0) (fun u4 => f_X11_hour_165 k10 FU u4 0 (nI m) 0) ∧ OnlyK inW M M' ∧ RH M' D (trP D m H (kP D)) := by
  intro n
  induction n with
  | zero => intro k M h1 h2; omega
  | succ n ih =>
    intro k M h1 h2 h hr
    have hW := h.2.1
    have hR := h.1
    have hn := hW.n
    have hMi := hW.mi
    have hP := hW.p
    show ∃ M', s_X11_hour_71 k10 (f_X11_hour_71 k10 n) M 0 (nI m) (nI k) = _ ∧ _
    unfold s_X11_hour_71
    rw [oR, gd_t, rr_17 hR, bd_t, aB_l (i := 0) zR_7 (by decide), gd_t, h.np]
    by_cases hk : k = kP D
    · subst hk
      rw [if_pos (nI_le (Nat.le_refl _) (by omega))]
      exact ⟨M, rfl, OnlyK.rf, hr⟩
    rw [if_neg (nI_ge (by omega) (by omega))]
    obtain ⟨M1, a1, a2, a3⟩ := hS_loop (p := k) (jv_trP hv hW (by omega) k) (by omega) hm k10 (f_X11_hour_71 k10 n) FU 0 M (by omega) (by unfold FU; omega) h hr
    rw [show (nI 0 : Int32) = 0 from rfl] at a1
    rw [a1]
    obtain ⟨M', b1, b2, b3⟩ := ih (k + 1) M1 (by omega) (by omega) (h.onlyW a2) a3
    exact ⟨M', b1, a2.tr b2, b3⟩
