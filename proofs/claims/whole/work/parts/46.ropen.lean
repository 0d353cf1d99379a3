/-! A MINUTE OPENS, the reference -/
def opR (D : MK) (m n : Nat) (H : HS) : HS := fun t i j =>
  if t = 0 ∧ i < n ∧ kSl D i 5 = 1 then qpS D i m else if t = 10 ∧ i < n ∧ j = m then (if kSl D i 5 = 1 then qpS D i m else H 0 i 0) else if (t = 2 ∨ t = 3) ∧ i < n then 0 else H t i j
theorem opR_all {D : MK} {m : Nat} {H : HS} : opR D m (kNs D) H = opS D m H := rfl
theorem opR_o {D : MK} {m n t i j : Nat} {H : HS} (h0 : t ≠ 0) (h1 : t ≠ 10) (h2 : t ≠ 2) (h3 : t ≠ 3) : opR D m n H t i j = H t i j := by
  unfold opR
  rw [if_neg (fun z => h0 z.1), if_neg (fun z => h1 z.1), if_neg (by omega)]
theorem opR_0 {D : MK} {m n i : Nat} {H : HS} (h5 : kSl D i 5 ≠ 1) : opR D m n H 0 i 0 = H 0 i 0 := by
  unfold opR
  rw [if_neg (fun z => h5 z.2.2), if_neg (by omega), if_neg (by omega)]
theorem opR_23 {D : MK} {m n t i : Nat} {H : HS} (ht : t = 2 ∨ t = 3) : opR D m n H t i 0 = if i < n then 0 else H t i 0 := by
  have h1 : ¬ (t = 0 ∧ i < n ∧ kSl D i 5 = 1) := by omega
  have h2 : ¬ (t = 10 ∧ i < n ∧ 0 = m) := by omega
  unfold opR
  rw [if_neg h1, if_neg h2]
  by_cases q : i < n
  · rw [if_pos q, if_pos ⟨ht, q⟩]
  · rw [if_neg q, if_neg (fun z => q z.2)]
theorem RH.op {M : Mem} {D : MK} {H : HS} {m k : Nat} {v : Int32} (h : RH M D (opR D m k H)) : RH (sI (sI (sI M 21 k 0) 22 k 0) 28 (60 * k + m) v) D (opR D m (k + 1) H) := by
  have he : ∀ a j, ¬ ((a = 21 ∧ j = k) ∨ (a = 22 ∧ j = k) ∨ a = 28) → gI (sI (sI (sI M 21 k 0) 22 k 0) 28 (60 * k + m) v) a j = gI M a j := fun a j q => by
    rw [gI_sI, if_neg (by omega), gI_sI, if_neg (by omega), gI_sI, if_neg (by omega)]
  have o' : ∀ t i j, t ≠ 0 → t ≠ 10 → t ≠ 2 → t ≠ 3 → opR D m (k + 1) H t i j = opR D m k H t i j := fun t i j h0 h1 h2 h3 => (opR_o h0 h1 h2 h3).trans (opR_o h0 h1 h2 h3).symm
  have e9 : ∀ n, ∀ i, i < n → ∀ j, opR D m (k + 1) H 9 i j = opR D m k H 9 i j := fun n i _ j => o' 9 i j (by decide) (by decide) (by decide) (by decide)
  have e8 := o' 8 0 0 (by decide) (by decide) (by decide) (by decide)
  have e23 : ∀ t, t = 2 ∨ t = 3 → ∀ i, opR D m (k + 1) H t i 0 = if i = k then 0 else opR D m k H t i 0 := fun t ht i => by
    rw [opR_23 ht, opR_23 ht]
    by_cases e : i = k
    · rw [if_pos e, if_pos (by omega)]
    · rw [if_neg e]
      by_cases q : i < k
      · rw [if_pos q, if_pos (by omega)]
      · rw [if_neg q, if_neg (by omega)]
  refine ⟨?_, fun i hi => ?_, fun b hb => ?_, fun i hi j hj => ?_⟩
  · rw [e8, pdS_cong _ (e9 _), he 0 46 (by omega), he 0 47 (by omega)]
    exact h.1
  · have c := h.2.1 i hi
    rw [e8, tkS_cong _ (e9 _), ctS_cong _ (e9 _), fsS_cong _ (e9 _), he 16 _ (by omega), he 17 _ (by omega), he 18 _ (by omega), he 19 _ (by omega), he 20 _ (by omega), o' 1 _ _ (by decide) (by decide) (by decide) (by decide), e23 2 (Or.inl rfl), e23 3 (Or.inr rfl)]
    refine ⟨c.1, fun q5 => ?_, c.2.2.1, c.2.2.2.1, c.2.2.2.2.1, ?_, ?_⟩
    · rw [c.2.1 q5, opR_0 q5, opR_0 q5]
    · by_cases e : i = k
      · subst e
        rw [if_pos rfl, gI_sI, if_neg (by omega), gI_sI, if_neg (by omega), gI_sI, if_pos ⟨rfl, rfl⟩]
        rfl
      · rw [if_neg e, he 21 _ (by omega)]
        exact c.2.2.2.2.2.1
    · by_cases e : i = k
      · subst e
        rw [if_pos rfl, gI_sI, if_neg (by omega), gI_sI, if_pos ⟨rfl, rfl⟩]
        rfl
      · rw [if_neg e, he 22 _ (by omega)]
        exact c.2.2.2.2.2.2
  · have c := h.2.2.1 b hb
    rw [e8, gtS_cong _ (e9 _), he 23 _ (by omega), he 24 _ (by omega), he 25 _ (by omega), o' 4 _ _ (by decide) (by decide) (by decide) (by decide), o' 7 _ _ (by decide) (by decide) (by decide) (by decide)]
    refine ⟨c.1, c.2.1, c.2.2.1, fun w hw => ?_, fun j hj => ?_⟩
    · rw [he 26 _ (by omega), o' 5 _ _ (by decide) (by decide) (by decide) (by decide)]
      exact c.2.2.2.1 w hw
    · rw [he 27 _ (by omega), o' 13 _ _ (by decide) (by decide) (by decide) (by decide)]
      exact c.2.2.2.2 j hj
  · rw [e8] at hi
    rw [he 31 _ (by omega), o' 9 _ _ (by decide) (by decide) (by decide) (by decide)]
    exact h.2.2.2 i hi j hj
/-- what the opening of a minute writes -/
theorem ropen_loop {D : MK} {m : Nat} {H : HS} (hm : m < kMi D) (k10 : Mem → Nat → Int32 → Option Mem) :
    ∀ n k M, k ≤ kNs D → kNs D < n + k → RC M D → RH M D (opR D m k H) → (∀ s, s < k → gI M 28 (60 * s + m) = nI (opS D m H 10 s m)) →
      ∃ M', f_X11_hour_22 k10 n M 0 (nI m) (nI k) = f_X11_hour_71 k10 FU M' 0 (nI m) 0 ∧ OnlyK inQ M M' ∧ RH M' D (opS D m H) ∧ (∀ s, s < kNs D → gI M' 28 (60 * s + m) = nI (opS D m H 10 s m)) ∧ (∀ a j, (a = 29 ∨ a = 30) → gI M' a j = gI M a j) ∧ ∀ s j, j < 60 → j ≠ m → gI M' 28 (60 * s + j) = gI M 28 (60 * s + j) := by
  intro n
  induction n with
  | zero => intro k M h1 h2; omega
  | succ n ih =>
    intro k M h1 h2 h hr ht
    have hW := h.2.1
    have hR := h.1
    have hn := hW.n
    have hMi := hW.mi
    show ∃ M', s_X11_hour_22 k10 (f_X11_hour_22 k10 n) M 0 (nI m) (nI k) = _ ∧ _
    unfold s_X11_hour_22
    rw [oR, gd_t, rr_17 hR, bd_t, aB_l (i := 3) zR_7 (by decide), gd_t, h.ns]
    by_cases hk : k = kNs D
    · subst hk
      rw [if_pos (nI_le (Nat.le_refl _) (by omega))]
      exact ⟨M, rfl, OnlyK.rf, hr, ht, fun _ _ _ => rfl, fun _ _ _ _ => rfl⟩
    have hks : k < kNs D := by omega
    have hO2 : OnlyK inQ M (sI (sI M 21 k 0) 22 k 0) := (OnlyK.rf.I (by unfold inQ; omega)).I (by unfold inQ; omega)
    have ea : f_X11_asked (sI (sI M 21 k 0) 22 k 0) 0 (nI k) (nI m) = some (nI (opS D m H 0 k 0)) := asked_eq (H := opS D m H) (h.onlyK hO2) (fun q5 => by
      rw [gI_sI, if_neg (by omega), gI_sI, if_neg (by omega), (hr.2.1 k hks).2.1 q5, opR_0 q5, ← opR_all, opR_0 q5]) (fun q5 => by
      unfold opS
      rw [if_pos ⟨rfl, hks, q5⟩]) hks hm
    rw [if_neg (nI_ge (by omega) (by omega)), rr_35 hR, bd_t, aB_t k zR_21 rfl (by omega) (by decide), gd_t, nx_t, vpn0, nI_clamp (n := k) (by omega), rr_36 hR.I, bd_t, aB_t k zR_22 rfl (by omega) (by decide), gd_t, nx_t, rr_42 hR.I.I, bd_t, ea, bd_t, show (60 : Int32) * nI k + nI m = nI (60 * k + m) by rw [show (60 : Int32) = nI 60 from rfl, pk_mul, nI_add], aB_t (60 * k + m) zR_28 rfl (by omega) (by decide), gd_t, nx_t, nI_clamp (n := 60 * k + m) (by omega), nI_1]
    have hO3 : OnlyK inQ M (sI (sI (sI M 21 k 0) 22 k 0) 28 (60 * k + m) (nI (opS D m H 0 k 0))) := hO2.I (by unfold inQ; omega)
    have e10 : opS D m H 10 k m = opS D m H 0 k 0 := by
      unfold opS
      rw [if_neg (by omega), if_pos ⟨rfl, hks, rfl⟩]
      by_cases q5 : kSl D k 5 = 1
      · rw [if_pos q5, if_pos ⟨rfl, hks, q5⟩]
      · rw [if_neg q5, if_neg (fun z => q5 z.2.2), if_neg (by omega), if_neg (by omega)]
    obtain ⟨M', b1, b2, b3, b4, b5, b6⟩ := ih (k + 1) _ (by omega) (by omega) (h.onlyK hO3) (hr.op (v := nI (opS D m H 0 k 0))) (fun s hs => by
      by_cases e : s = k
      · subst e
        rw [gI_sI, if_pos ⟨rfl, rfl⟩, e10]
      · rw [gI_sI, if_neg (by omega), gI_sI, if_neg (by omega), gI_sI, if_neg (by omega)]
        exact ht s (by omega))
    refine ⟨M', b1, hO3.tr b2, b3, b4, fun a j q => ?_, fun s j hj q => ?_⟩
    · rw [b5 a j q, gI_sI, if_neg (by omega), gI_sI, if_neg (by omega), gI_sI, if_neg (by omega)]
    · rw [b6 s j hj q, gI_sI, if_neg (by omega), gI_sI, if_neg (by omega), gI_sI, if_neg (by omega)]
