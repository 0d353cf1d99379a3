/-! PRICES LEARNT, the reference -/
def leS (D : MK) (n : Nat) (H : HS) : HS := fun t i j =>
  if t = 0 ∧ i < n ∧ kSl D i 5 = 2 then (if H 2 i 0 = 1 then min 99 (H 0 i 0 + kSl D i 6) else if H 3 i 0 = 1 then H 0 i 0 - kSl D i 6 else H 0 i 0) else H t i j
theorem RH.le {M M' : Mem} {D : MK} {H : HS} {k : Nat} (h : RH M D (leS D k H)) (he : ∀ a j, ¬ (a = 17 ∧ j = k) → gI M' a j = gI M a j) (h17 : kSl D k 5 ≠ 1 → gI M' 17 k = nI (leS D (k + 1) H 0 k 0)) : RH M' D (leS D (k + 1) H) := by
  have o : ∀ q t i j, t ≠ 0 → leS D q H t i j = H t i j := fun q t i j ht => by
    unfold leS
    rw [if_neg (fun z => ht z.1)]
  have o' : ∀ t i j, t ≠ 0 → leS D (k + 1) H t i j = leS D k H t i j := fun t i j ht => (o _ t i j ht).trans (o _ t i j ht).symm
  have e9 : ∀ n, ∀ i, i < n → ∀ j, leS D (k + 1) H 9 i j = leS D k H 9 i j := fun n i _ j => o' 9 i j (by decide)
  have e8 := o' 8 0 0 (by decide)
  refine ⟨?_, fun i hi => ?_, fun b hb => ?_, fun i hi j hj => ?_⟩
  · rw [e8, pdS_cong _ (e9 _), he 0 46 (by omega), he 0 47 (by omega)]
    exact h.1
  · have c := h.2.1 i hi
    rw [e8, tkS_cong _ (e9 _), ctS_cong _ (e9 _), fsS_cong _ (e9 _), he 16 _ (by omega), he 18 _ (by omega), he 19 _ (by omega), he 20 _ (by omega), he 21 _ (by omega), he 22 _ (by omega), o' 1 _ _ (by decide), o' 2 _ _ (by decide), o' 3 _ _ (by decide)]
    refine ⟨c.1, fun q5 => ?_, c.2.2.1, c.2.2.2.1, c.2.2.2.2.1, c.2.2.2.2.2.1, c.2.2.2.2.2.2⟩
    by_cases e : i = k
    · subst e
      exact h17 q5
    · rw [he 17 _ (by omega), c.2.1 q5]
      congr 1
      unfold leS
      by_cases z : i < k
      · simp [z, show i < k + 1 by omega]
      · simp [z, show ¬ i < k + 1 by omega]
  · have c := h.2.2.1 b hb
    rw [e8, gtS_cong _ (e9 _), he 23 _ (by omega), he 24 _ (by omega), he 25 _ (by omega), o' 4 _ _ (by decide), o' 7 _ _ (by decide)]
    refine ⟨c.1, c.2.1, c.2.2.1, fun w hw => ?_, fun j hj => ?_⟩
    · rw [he 26 _ (by omega), o' 5 _ _ (by decide)]
      exact c.2.2.2.1 w hw
    · rw [he 27 _ (by omega), o' 13 _ _ (by decide)]
      exact c.2.2.2.2 j hj
  · rw [e8] at hi
    rw [he 31 _ (by omega), o' 9 _ _ (by decide)]
    exact h.2.2.2 i hi j hj
theorem learns_loop {D : MK} {m : Nat} {H : HS} (hv : IvJ D m H) :
    ∀ n k M, k ≤ kNs D → kNs D < n + k → RC M D → RH M D (leS D k H) → ∃ M', f_X11_learns_2 n M 0 (nI k) = some M' ∧ OnlyK inW M M' ∧ RH M' D (leS D (kNs D) H) := by
  intro n
  induction n with
  | zero => intro k M h1 h2; omega
  | succ n ih =>
    intro k M h1 h2 h hr
    have hW := h.2.1
    have hR := h.1
    have hn := hW.n
    show ∃ M', s_X11_learns_2 (f_X11_learns_2 n) M 0 (nI k) = _ ∧ _
    unfold s_X11_learns_2
    rw [oR, gd_t, rr_17 hR, bd_t, aB_l (i := 3) zR_7 (by decide), gd_t, h.ns]
    by_cases hk : k = kNs D
    · subst hk
      rw [if_pos (nI_le (Nat.le_refl _) (by omega))]
      exact ⟨M, rfl, OnlyK.rf, hr⟩
    have hks : k < kNs D := by omega
    have hsl := hW.2.2.2.2.2.1 k hks
    have hvs := hv.1.1 k hks
    have hq := hv.2.1.2 k hks
    have c := hr.2.1 k hks
    have o : ∀ t i j, t ≠ 0 → leS D k H t i j = H t i j := fun t i j ht => by
      unfold leS
      rw [if_neg (fun z => ht z.1)]
    have o0 : leS D k H 0 k 0 = H 0 k 0 := by
      unfold leS
      rw [if_neg (by omega)]
    rw [o 1 _ _ (by decide), o 2 _ _ (by decide), o 3 _ _ (by decide), o0] at c
    rw [if_neg (nI_ge (by omega) (by omega)), h.of hks (j := 5) (by decide) (y := 5) rfl, bd_t]
    -- no change of the cells
    have same : (kSl D k 5 ≠ 1 → H 0 k 0 = leS D (k + 1) H 0 k 0) → ∃ M', f_X11_learns_2 n M 0 (nI k + 1) = some M' ∧ OnlyK inW M M' ∧ RH M' D (leS D (kNs D) H) := fun z => by
      rw [nI_1]
      exact ih (k + 1) M (by omega) (by omega) h (hr.le (fun _ _ _ => rfl) (fun q5 => by rw [c.2.1 q5, z q5]))
    -- a price that is written
    have wr : ∀ x, x = leS D (k + 1) H 0 k 0 → ∃ M', f_X11_learns_2 n (sI M 17 k (nI x)) 0 (nI k + 1) = some M' ∧ OnlyK inW M M' ∧ RH M' D (leS D (kNs D) H) := fun x z => by
      have hO : OnlyK inW M (sI M 17 k (nI x)) := OnlyK.rf.I (by unfold inW; omega)
      rw [nI_1]
      obtain ⟨M', b1, b2, b3⟩ := ih (k + 1) (sI M 17 k (nI x)) (by omega) (by omega) (h.onlyW hO) (hr.le (fun a j q => by rw [gI_sI, if_neg q]) (fun _ => by rw [gI_sI, if_pos ⟨rfl, rfl⟩, z]))
      exact ⟨M', b1, hO.tr b2, b3⟩
    by_cases h5 : kSl D k 5 = 2
    · have el : leS D (k + 1) H 0 k 0 = if H 2 k 0 = 1 then min 99 (H 0 k 0 + kSl D k 6) else if H 3 k 0 = 1 then H 0 k 0 - kSl D k 6 else H 0 k 0 := by
        unfold leS
        rw [if_pos ⟨rfl, by omega, h5⟩]
      have c17 := c.2.1 (by omega)
      rw [if_pos (by rw [h5]; rfl), rr_35 hR, bd_t, aB_t k zR_21 rfl (by omega) (by decide), gd_t, nI_clamp (n := k) (by omega), c.2.2.2.2.2.1]
      have e6 := h.of hks (j := 6) (by decide) (y := 6) rfl
      by_cases h20 : H 2 k 0 = 0
      · rw [if_pos (show nI (H 2 k 0) = 0 by rw [h20]; rfl), rr_30 hR, bd_t, aB_t k zR_16 rfl (by omega) (by decide), gd_t, c.1]
        by_cases h10 : H 1 k 0 = 0
        · rw [if_pos (show nI (H 1 k 0) ≤ 0 by rw [h10]; decide)]
          exact same (fun _ => by rw [el, if_neg (by omega), if_neg (by omega)])
        rw [if_neg (nI_nle (by omega) (by omega)), rr_36 hR, bd_t, aB_t k zR_22 rfl (by omega) (by decide), gd_t, c.2.2.2.2.2.2]
        by_cases h30 : H 3 k 0 = 0
        · rw [if_pos (show nI (H 3 k 0) = 0 by rw [h30]; rfl)]
          exact same (fun _ => by rw [el, if_neg (by omega), if_neg (by omega)])
        rw [if_neg (nI_ne0 (by omega) (by omega)), rr_31 hR, bd_t, aB_t k zR_17 rfl (by omega) (by decide), gd_t, e6, bd_t, c17]
        by_cases q : kSl D k 6 ≤ H 0 k 0
        · rw [if_pos (nI_le q (by omega)), bd_t, nx_t, pk_sub q]
          exact wr _ (by rw [el, if_neg (by omega), if_pos (by omega)])
        · rw [if_neg (nI_ge (by omega) (by omega)), nx_t, show (0 : Int32) = nI 0 from rfl]
          exact wr _ (by rw [el, if_neg (by omega), if_pos (by omega)]; omega)
      · rw [if_neg (nI_ne0 (by omega) (by omega)), rr_31 hR, bd_t, aB_t k zR_17 rfl (by omega) (by decide), gd_t, e6, bd_t, c17, nI_add]
        by_cases q : H 0 k 0 + kSl D k 6 ≤ 99
        · rw [if_pos (show nI (H 0 k 0 + kSl D k 6) ≤ 99 from nI_le (b := 99) q (by decide)), bd_t, nx_t, nI_add]
          exact wr _ (by rw [el, if_pos (by omega)]; omega)
        · rw [if_neg (show ¬ nI (H 0 k 0 + kSl D k 6) ≤ 99 from nI_ge (a := 99) (by omega) (by omega)), nx_t, show (99 : Int32) = nI 99 from rfl]
          exact wr _ (by rw [el, if_pos (by omega)]; omega)
    · rw [if_neg (nI_neL (x := 2) 2 rfl h5 (by omega) (by decide))]
      exact same (fun _ => by
        unfold leS
        rw [if_neg (by omega)])
