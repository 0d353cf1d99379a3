theorem rhours_loop {D : MK} : ∀ n k M H0, k ≤ kMi D → kMi D < n + k → RC M D → RH M D H0 → opS D k H0 = opS D k (hrS D k) → (kMi D ≤ k → H0 = hrS D k) → RT M D (hrS D k) k → ∃ M', f_X11_hour_10 n M 0 (nI k) = some M' ∧ OnlyK inQ M M' ∧ RH M' D (hrS D (kMi D)) ∧ RT M' D (hrS D (kMi D)) (kMi D) := by
  intro n
  induction n with
  | zero => intro k M H0 h1 h2; omega
  | succ n ih =>
    intro k M H0 h1 h2 h hr hop hend ht
    have hMi := h.2.1.mi
    show ∃ M', s_X11_hour_10 (f_X11_hour_10 n) M 0 (nI k) = _ ∧ _
    unfold s_X11_hour_10
    rw [oR, gd_t, rr_17 h.1, bd_t, aB_l (i := 1) zR_7 (by decide), gd_t, h.mi]
    by_cases hk : k = kMi D
    · subst hk
      rw [if_pos (nI_le (Nat.le_refl _) (by omega))]
      rw [hend (Nat.le_refl _)] at hr
      exact ⟨M, rfl, OnlyK.rf, hr, ht⟩
    rw [if_neg (nI_ge (by omega) (by omega))]
    obtain ⟨M1, a1, a2, a3, a4⟩ := rmin_eq h hr hop ht (by omega) (f_X11_hour_10 n)
    rw [a1]
    obtain ⟨M', b1, b2, b3, b4⟩ := ih (k + 1) M1 (hrS D (k + 1)) (by omega) (by omega) (h.onlyK a2) a3 rfl (fun _ => rfl) a4
    exact ⟨M', b1, a2.tr b2, b3, b4⟩
