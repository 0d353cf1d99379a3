/-! A MINUTE CLOSES, the reference -/
theorem RH.tag {M : Mem} {D : MK} {H H' : HS} (h : RH M D H) (e : ∀ t i j, t < 10 ∨ t = 13 → H' t i j = H t i j) : RH M D H' := by
  have e9 : ∀ n, ∀ i, i < n → ∀ j, H' 9 i j = H 9 i j := fun n i _ j => e 9 i j (by decide)
  have e8 := e 8 0 0 (by decide)
  refine ⟨?_, fun i hi => ?_, fun b hb => ?_, fun i hi j hj => ?_⟩
  · rw [e8, pdS_cong _ (e9 _)]
    exact h.1
  · have c := h.2.1 i hi
    rw [e8, tkS_cong _ (e9 _), ctS_cong _ (e9 _), fsS_cong _ (e9 _), e 0 _ _ (by decide), e 1 _ _ (by decide), e 2 _ _ (by decide), e 3 _ _ (by decide)]
    exact c
  · have c := h.2.2.1 b hb
    rw [e8, gtS_cong _ (e9 _), e 4 _ _ (by decide), e 7 _ _ (by decide)]
    refine ⟨c.1, c.2.1, c.2.2.1, fun w hw => ?_, fun j hj => ?_⟩
    · rw [e 5 _ _ (by decide)]
      exact c.2.2.2.1 w hw
    · rw [e 13 _ _ (by decide)]
      exact c.2.2.2.2 j hj
  · rw [e8] at hi
    rw [e 9 _ _ (by decide)]
    exact h.2.2.2 i hi j hj
theorem RH.tab {M : Mem} {D : MK} {H : HS} {a k : Nat} {v : Int32} (h : RH M D H) (ha : a = 29 ∨ a = 30) : RH (sI M a k v) D H := by
  have he : ∀ b j, b < 28 ∨ b = 31 → gI (sI M a k v) b j = gI M b j := fun b j q => by rw [gI_sI, if_neg (by omega)]
  refine ⟨?_, fun i hi => ?_, fun b hb => ?_, fun i hi j hj => ?_⟩
  · rw [he 0 46 (by decide), he 0 47 (by decide)]
    exact h.1
  · rw [he 16 _ (by decide), he 17 _ (by decide), he 18 _ (by decide), he 19 _ (by decide), he 20 _ (by decide), he 21 _ (by decide), he 22 _ (by decide)]
    exact h.2.1 i hi
  · have c := h.2.2.1 b hb
    rw [he 23 _ (by decide), he 24 _ (by decide), he 25 _ (by decide)]
    refine ⟨c.1, c.2.1, c.2.2.1, fun w hw => ?_, fun j hj => ?_⟩
    · rw [he 26 _ (by decide)]
      exact c.2.2.2.1 w hw
    · rw [he 27 _ (by decide)]
      exact c.2.2.2.2 j hj
  · rw [he 31 _ (by decide)]
    exact h.2.2.2 i hi j hj
theorem rclB_loop {D : MK} {m : Nat} {H : HS} (hm : m < kMi D) (k10 : Mem → Nat → Int32 → Option Mem) :
    ∀ n k M, k ≤ kNb D → kNb D < n + k → RC M D → RH M D H → (∀ b, b < k → gI M 30 (60 * b + m) = nI (H 4 b 0)) →
      ∃ M', f_X11_hour_200 k10 n M 0 (nI m) (nI k) = k10 M' 0 (nI (m + 1)) ∧ OnlyK (fun a _ => a = 30) M M' ∧ RH M' D H ∧ (∀ b, b < kNb D → gI M' 30 (60 * b + m) = nI (H 4 b 0)) ∧ ∀ s j, j < 60 → j ≠ m → gI M' 30 (60 * s + j) = gI M 30 (60 * s + j) := by
  intro n
  induction n with
  | zero => intro k M h1 h2; omega
  | succ n ih =>
    intro k M h1 h2 h hr ht
    have hW := h.2.1
    have hR := h.1
    have hn := hW.n
    have hMi := hW.mi
    show ∃ M', s_X11_hour_200 k10 (f_X11_hour_200 k10 n) M 0 (nI m) (nI k) = _ ∧ _
    unfold s_X11_hour_200
    rw [oR, gd_t, rr_17 hR, bd_t, aB_l (i := 4) zR_7 (by decide), gd_t, h.nb]
    by_cases hk : k = kNb D
    · subst hk
      rw [if_pos (nI_le (Nat.le_refl _) (by omega)), nI_1]
      exact ⟨M, rfl, OnlyK.rf, hr, ht, fun _ _ _ _ => rfl⟩
    have hkb : k < kNb D := by omega
    have c := hr.2.2.1 k hkb
    rw [if_neg (nI_ge (by omega) (by omega)), rr_44 hR, bd_t, rr_37 hR, bd_t, aB_t k zR_23 rfl (by omega) (by decide), gd_t, show (60 : Int32) * nI k + nI m = nI (60 * k + m) by rw [show (60 : Int32) = nI 60 from rfl, pk_mul, nI_add], aB_t (60 * k + m) zR_30 rfl (by omega) (by decide), gd_t, nx_t, nI_clamp (n := 60 * k + m) (by omega), nI_clamp (n := k) (by omega), c.1, nI_1]
    have hO : OnlyK inQ M (sI M 30 (60 * k + m) (nI (H 4 k 0))) := OnlyK.rf.I (by unfold inQ; omega)
    have hO' : OnlyK (fun a _ => a = 30) M (sI M 30 (60 * k + m) (nI (H 4 k 0))) := OnlyK.rf.I rfl
    obtain ⟨M', b1, b2, b3, b4, b5⟩ := ih (k + 1) _ (by omega) (by omega) (h.onlyK hO) (hr.tab (Or.inr rfl)) (fun b hb => by
      by_cases e : b = k
      · subst e
        rw [gI_sI, if_pos ⟨rfl, rfl⟩]
      · rw [gI_sI, if_neg (by omega)]
        exact ht b (by omega))
    refine ⟨M', b1, hO'.tr b2, b3, b4, fun s j hj q => ?_⟩
    rw [b5 s j hj q, gI_sI, if_neg (by omega)]
theorem rclS_loop {D : MK} {m : Nat} {H : HS} (hm : m < kMi D) (k10 : Mem → Nat → Int32 → Option Mem) :
    ∀ n k M, k ≤ kNs D → kNs D < n + k → RC M D → RH M D H → (∀ s, s < k → gI M 29 (60 * s + m) = nI (H 1 s 0)) →
      ∃ M', f_X11_hour_165 k10 n M 0 (nI m) (nI k) = f_X11_hour_200 k10 FU M' 0 (nI m) 0 ∧ OnlyK (fun a _ => a = 29) M M' ∧ RH M' D H ∧ (∀ s, s < kNs D → gI M' 29 (60 * s + m) = nI (H 1 s 0)) ∧ ∀ s j, j < 60 → j ≠ m → gI M' 29 (60 * s + j) = gI M 29 (60 * s + j) := by
  intro n
  induction n with
  | zero => intro k M h1 h2; omega
  | succ n ih =>
    intro k M h1 h2 h hr ht
    have hW := h.2.1
    have hR := h.1
    have hn := hW.n
    have hMi := hW.mi
    show ∃ M', s_X11_hour_165 k10 (f_X11_hour_165 k10 n) M 0 (nI m) (nI k) = _ ∧ _
    unfold s_X11_hour_165
    rw [oR, gd_t, rr_17 hR, bd_t, aB_l (i := 3) zR_7 (by decide), gd_t, h.ns]
    by_cases hk : k = kNs D
    · subst hk
      rw [if_pos (nI_le (Nat.le_refl _) (by omega))]
      exact ⟨M, rfl, OnlyK.rf, hr, ht, fun _ _ _ _ => rfl⟩
    have hks : k < kNs D := by omega
    have c := hr.2.1 k hks
    rw [if_neg (nI_ge (by omega) (by omega)), rr_43 hR, bd_t, rr_30 hR, bd_t, aB_t k zR_16 rfl (by omega) (by decide), gd_t, show (60 : Int32) * nI k + nI m = nI (60 * k + m) by rw [show (60 : Int32) = nI 60 from rfl, pk_mul, nI_add], aB_t (60 * k + m) zR_29 rfl (by omega) (by decide), gd_t, nx_t, nI_clamp (n := 60 * k + m) (by omega), nI_clamp (n := k) (by omega), c.1, nI_1]
    have hO : OnlyK inQ M (sI M 29 (60 * k + m) (nI (H 1 k 0))) := OnlyK.rf.I (by unfold inQ; omega)
    have hO' : OnlyK (fun a _ => a = 29) M (sI M 29 (60 * k + m) (nI (H 1 k 0))) := OnlyK.rf.I rfl
    obtain ⟨M', b1, b2, b3, b4, b5⟩ := ih (k + 1) _ (by omega) (by omega) (h.onlyK hO) (hr.tab (Or.inl rfl)) (fun b hb => by
      by_cases e : b = k
      · subst e
        rw [gI_sI, if_pos ⟨rfl, rfl⟩]
      · rw [gI_sI, if_neg (by omega)]
        exact ht b (by omega))
    refine ⟨M', b1, hO'.tr b2, b3, b4, fun s j hj q => ?_⟩
    rw [b5 s j hj q, gI_sI, if_neg (by omega)]
