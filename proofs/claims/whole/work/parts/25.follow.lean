/-! THE COURSE OF A MARKET, class side -/
theorem CM.only {S : Nat → Prop} {M M' : Mem} {b : Nat} {D : MK} (h : CM M b D) (hW : kNr D ≤ 3 ∧ kNs D ≤ 8 ∧ kNb D ≤ 6) (hO : Only S M M') (hS : ∀ a, b ≤ a → a < b + 39 → ¬ S a) : CM M' b D :=
  h.keep hW (fun a h1 h2 => ⟨fun k => hO.2 a (hS a h1 h2) k, fun k => hO.gL a k⟩)
theorem WFD.n {D : MK} (h : WFD D) : kNr D ≤ 3 ∧ kNs D ≤ 8 ∧ kNb D ≤ 6 := ⟨h.2.1, h.2.2.1, h.2.2.2.1⟩
theorem WFD.mi {D : MK} (h : WFD D) : kMi D ≤ 60 := by rcases h.1 with h | h <;> omega
theorem WFD.p {D : MK} (h : WFD D) : kP D ≤ 12 := by rcases h.1 with h | h <;> omega
theorem WFD.p0 {D : MK} (h : WFD D) (hn : 0 < kNs D ∨ 0 < kNb D ∨ 0 < kNr D) : 0 < kP D := by rcases h.1 with h | h <;> omega
def inCo (a : Nat) : Prop := 87 ≤ a ∧ a ≤ 98 ∧ a ≠ 90
theorem carry_eq {M : Mem} {b s : Nat} {D : MK} (hb : b ∈ MB) (hCR : CR M) (hW : WFD D) (hC : CM M b D) (hs : s < kNs D) (hT : TnC M D) : ∃ M', f_X2_carry M 85 b (nI s) = some M' ∧ Only (· = 91 + s) M M' ∧ PlC M' D s := by
  have hP := hW.p0 (Or.inl (by omega))
  have hn := hW.n
  have hsl := hW.2.2.2.2.2.1 s hs
  have hms := mb_sh b hb
  have hMi := hW.mi
  have hP12 := hW.p
  unfold f_X2_carry
  rw [hms.1, gd_t, mk_7 hCR hb, bd_t, aB_t s hms.2.2.1 rfl (by omega) (by decide), gd_t, nI_clamp (by omega), mk_s hCR hb (by omega), bd_t, mk_6 hCR hb, bd_t, hms.2.2.2.2.2.1 s (by omega), gd_t, hC.2.2.1 s hs 0 (by decide), aB_t (kSl D s 0) hms.2.1 rfl (by omega) (by decide), gd_t, nI_clamp (by omega), mk_r hCR hb (by omega), bd_t, hC.1.1, if_pos (show 0 < nI (kP D) from nI_lt (a := 0) hP (by omega))]
  exact carry_loop hb hCR hW hC hs hP hT FU 0 M (by omega) (by unfold FU; omega) Only.rf (fun i hi => by omega)
theorem follow_loop2 {M : Mem} {b : Nat} {D : MK} (hb : b ∈ MB) (hCR : CR M) (hW : WFD D) (hC : CM M b D) (hT : TnC M D) :
    ∀ n s M', s ≤ kNs D → kNs D < n + s → Only inCo M M' → TnC M' D → (∀ i, i < s → PlC M' D i) → ∃ M'', f_X2_follow_37 n M' 85 b (nI s) = some M'' ∧ Only inCo M M'' ∧ TnC M'' D ∧ ∀ i, i < kNs D → PlC M'' D i := by
  have hn := hW.n
  have hms := mb_sh b hb
  intro n
  induction n with
  | zero => intro s M' h1 h2; omega
  | succ n ih =>
    intro s M' h1 h2 hO hT' hi
    show ∃ M'', s_X2_follow_37 (f_X2_follow_37 n) M' 85 b (nI s) = some M'' ∧ _
    unfold s_X2_follow_37
    have hC' : CM M' b D := hC.only hn hO (fun a q1 q2 z => by have := mb_out hb (a := a) (by unfold inCo at z; omega) (by unfold inCo at z; omega); omega)
    have hCR' := hO.CR hCR
    rw [hms.1, gd_t, hC'.1.2.2.2.2.1]
    by_cases hs : s = kNs D
    · subst hs
      rw [if_pos (nI_le (Nat.le_refl _) (by omega))]
      exact ⟨M', rfl, hO, hT', hi⟩
    rw [if_neg (nI_ge (by omega) (by omega)), oC_85, gd_t]
    obtain ⟨M2, e, o2, p2⟩ := carry_eq hb hCR' hW hC' (s := s) (by omega) hT'
    rw [e, bd_t, nI_1]
    refine ih (s + 1) M2 (by omega) (by omega) (hO.tr (o2.mono (fun a z => by subst z; unfold inCo; omega))) (fun r hr m hm => ?_) (fun i hi' => ?_)
    · rw [o2.2 (87 + r) (by omega)]
      exact hT' r hr m hm
    · by_cases h : i = s
      · subst h; exact p2
      · intro m hm
        rw [o2.2 (91 + i) (by omega)]
        exact hi i (by omega) m hm
theorem follow_loop1 {M : Mem} {b : Nat} {D : MK} (hb : b ∈ MB) (hCR : CR M) (hW : WFD D) (hC : CM M b D) :
    ∀ n r M', r ≤ kNr D → kNr D < n + r → Only inCo M M' → (∀ i, i < r → ∀ m, m < kMi D → gI M' (87 + i) m = nI (kTn D i m)) → ∃ M'', f_X2_follow_2 n M' 85 b (nI r) = some M'' ∧ Only inCo M M'' ∧ TnC M'' D ∧ ∀ i, i < kNs D → PlC M'' D i := by
  have hn := hW.n
  have hms := mb_sh b hb
  have hMi := hW.mi
  intro n
  induction n with
  | zero => intro s M' h1 h2; omega
  | succ n ih =>
    intro r M' h1 h2 hO hi
    show ∃ M'', s_X2_follow_2 (f_X2_follow_2 n) M' 85 b (nI r) = some M'' ∧ _
    unfold s_X2_follow_2
    have hC' : CM M' b D := hC.only hn hO (fun a q1 q2 z => by have := mb_out hb (a := a) (by unfold inCo at z; omega) (by unfold inCo at z; omega); omega)
    have hCR' := hO.CR hCR
    rw [hms.1, gd_t, hC'.1.2.2.2.1]
    by_cases hr : r = kNr D
    · subst hr
      rw [if_pos (nI_le (Nat.le_refl _) (by omega))]
      obtain ⟨M2, e, o2, t2, p2⟩ := follow_loop2 hb hCR' hW hC' hi FU 0 M' (by omega) (by unfold FU; omega) Only.rf hi (fun i hi => by omega)
      exact ⟨M2, e, hO.tr o2, t2, p2⟩
    have hrg := hW.2.2.2.2.1 r (by omega)
    have hcr := hC'.2.1 r (by omega)
    have hout := mb_out hb (a := 87 + r) (by omega) (by omega)
    rw [if_neg (nI_ge (by omega) (by omega)), mk_6 hCR' hb, bd_t, aB_t r hms.2.1 rfl (by omega) (by decide), gd_t, nI_clamp (by omega), mk_r hCR' hb (by omega), bd_t, oC_85, gd_t, cr_85_0 hCR', bd_t, aB_t r zC_86 rfl (by omega) (by decide), gd_t, cr_t hCR' (by omega), bd_t, hC'.1.2.1]
    obtain ⟨M2, e, o2, t2⟩ := turn_loop (M := M') (q := b + 4 + r) (t := 87 + r) (D := D) (r := r) (Mi := kMi D) hMi (hms.2.2.2.2.1 r (by omega)) (zC_t r (by omega)).1 (by omega) hrg.1 hcr.1 hcr.2.2 FU 0 M' (by omega) (by unfold FU; omega) Only.rf (fun i hi => by omega)
    have e' : f_X2_turnRing M' (b + 4 + r) (87 + r) (nI (kMi D)) = some M2 := e
    rw [e', bd_t, nI_1]
    refine ih (r + 1) M2 (by omega) (by omega) (hO.tr (o2.mono (fun a z => by subst z; unfold inCo; omega))) (fun i hi' m hm => ?_)
    by_cases h : i = r
    · subst h; exact t2 m hm
    · rw [o2.2 (87 + i) (by omega)]
      exact hi i (by omega) m hm
theorem follow_eq {M : Mem} {b : Nat} {D : MK} (hb : b ∈ MB) (hCR : CR M) (hW : WFD D) (hC : CM M b D) : ∃ M', f_X2_follow M 85 b = some M' ∧ Only inCo M M' ∧ TnC M' D ∧ ∀ s, s < kNs D → PlC M' D s := by
  have hn := hW.n
  exact follow_loop1 hb hCR hW hC FU 0 M (by omega) (by unfold FU; omega) Only.rf (fun i hi => by omega)
