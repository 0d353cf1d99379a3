/-! A MINUTE ENDS, class side -/
def clK (D : MK) (m k : Nat) (H : HS) : HS := fun t i j =>
  if t = 0 ∧ i < k ∧ kSl D i 5 = 2 then (if H 2 i 0 = 1 then min 99 (H 0 i 0 + kSl D i 6) else if H 3 i 0 = 1 then H 0 i 0 - kSl D i 6 else H 0 i 0) else if t = 11 ∧ i < k ∧ j = m then H 1 i 0 else H t i j
theorem CH.cong {M M' : Mem} {D : MK} {H H' : HS} (hc : CH M D H) (hg : ∀ a, (a = 84 ∨ (124 ≤ a ∧ a ≤ 141)) → ∀ k, gI M' a k = gI M a k) (he : ∀ t i j, t < 10 → H' t i j = H t i j) (hN : kNb D ≤ 6) : CH M' D H' := by
  obtain ⟨h1, h2, h3, h4⟩ := hc
  refine ⟨?_, fun x hx => ?_, fun x hx => ⟨?_, fun v hv => ?_, ?_, ?_⟩, fun j hj => ?_⟩
  · rw [hg _ (by omega), he _ _ _ (by omega)]; exact h1
  · rw [hg _ (by omega), hg _ (by omega), hg _ (by omega), hg _ (by omega), he _ _ _ (by omega), he _ _ _ (by omega), he _ _ _ (by omega), he _ _ _ (by omega)]; exact h2 x hx
  · rw [hg _ (by omega), he _ _ _ (by omega)]; exact (h3 x hx).1
  · rw [hg _ (by omega), he _ _ _ (by omega)]; exact (h3 x hx).2.1 v hv
  · rw [hg _ (by omega), he _ _ _ (by omega)]; exact (h3 x hx).2.2.1
  · rw [hg _ (by omega), he _ _ _ (by omega)]; exact (h3 x hx).2.2.2
  · rw [he _ _ _ (by omega)] at hj
    rw [hg _ (by omega), hg _ (by omega), hg _ (by omega), hg _ (by omega), he _ _ _ (by omega), he _ _ _ (by omega), he _ _ _ (by omega), he _ _ _ (by omega)]; exact h4 j hj
theorem close2_loop {M : Mem} {b m : Nat} {D : MK} {H : HS} (hH : HC M b D) (hm : m < kMi D) (hc : CH M D H) (htp : CTp M D H m) :
    ∀ n x M', x ≤ kNb D → kNb D < n + x → Only (fun a => 118 ≤ a ∧ a ≤ 123) M M' → (∀ y, y < kNb D → ∀ j, j < m → gI M' (118 + y) j = gI M (118 + y) j) → (∀ y, y < x → gI M' (118 + y) m = nI (H 4 y 0)) → ∃ M'', f_X3_closeMinute_68 n M' 84 (nI m) (nI x) = some M'' ∧ Only (fun a => 118 ≤ a ∧ a ≤ 123) M M'' ∧ (∀ y, y < kNb D → ∀ j, j < m → gI M'' (118 + y) j = gI M (118 + y) j) ∧ ∀ y, y < kNb D → gI M'' (118 + y) m = nI (H 4 y 0) := by
  have hn := hH.2.2.2.1.n
  have hMi := hH.2.2.2.1.mi
  intro n
  induction n with
  | zero => intro s M' h1 h2; omega
  | succ n ih =>
    intro x M' h1 h2 hO hj hi
    show ∃ M'', s_X3_closeMinute_68 (f_X3_closeMinute_68 n) M' 84 (nI m) (nI x) = some M'' ∧ _
    unfold s_X3_closeMinute_68
    have hH' := hH.only (hO.mono (fun a z => by unfold inH; omega))
    have hCR := hH'.2.1
    rw [oC_84, gd_t, hH'.2.2.1, bd_t, (mb_sh b hH.1).1, gd_t, hH'.2.2.2.2.1.1.2.2.2.2.2]
    by_cases hk : x = kNb D
    · subst hk
      rw [if_pos (nI_le (Nat.le_refl _) (by omega))]
      exact ⟨M', rfl, hO, hj, hi⟩
    rw [if_neg (nI_ge (by omega) (by omega)), cr_84_3 hCR, bd_t, aB_t x zC_117 rfl (by omega) (by decide), gd_t, nI_clamp (n := x) (by omega), cr_u hCR (by omega), bd_t, cr_84_15 hCR, bd_t, aB_t x zC_133 rfl (by omega) (by decide), gd_t, aB_t m (zC_u x (by omega)).1 rfl (by omega) (by decide), gd_t, nx_t, nI_clamp (n := m) (by omega), nI_1, hO.2 133 (by omega), (hc.2.2.1 x (by omega)).1]
    refine ih (x + 1) _ (by omega) (by omega) (hO.I (by omega)) (fun y hy j hjm => ?_) (fun y hy => ?_)
    · rw [gI_sI, if_neg (by omega)]
      exact hj y hy j hjm
    · by_cases e : y = x
      · subst e
        rw [gI_sI, if_pos ⟨rfl, rfl⟩]
      · rw [gI_sI, if_neg (by omega)]
        exact hi y (by omega)
theorem learn_eq {M : Mem} {s p st sd dr : Nat} (hCR : CR M) (hs : s < 8) (hp : p ≤ 99) (hst : st ≤ 20) (hsd : sd ≤ 1) (hdr : dr ≤ 1) (h0 : gI M 129 s = nI p) (h2 : gI M 131 s = nI sd) (h3 : gI M 132 s = nI dr) :
    ∃ M', f_X3_learn M 84 (nI s) (nI st) = some M' ∧ CR M' ∧ Only (· = 129) M M' ∧ (∀ a k, ¬ (a = 129 ∧ k = s) → gI M' a k = gI M a k) ∧ gI M' 129 s = nI (if sd = 1 then min 99 (p + st) else if dr = 1 then p - st else p) := by
  unfold f_X3_learn
  rw [oC_84, gd_t, cr_84_13 hCR, bd_t, aB_t s zC_131 rfl (by omega) (by decide), gd_t, nI_clamp (n := s) (by omega), h2]
  by_cases e1 : sd = 1
  · rw [if_neg (nI_ne0 (by omega) (by omega)), cr_84_11 hCR, bd_t, aB_t s zC_129 rfl (by omega) (by decide), gd_t, h0, nI_add, min99_eq (by omega), bd_t, nx_t]
    refine ⟨_, rfl, hCR.I, Only.rf.I rfl, fun a k h => by rw [gI_sI, if_neg h], ?_⟩
    rw [gI_sI, if_pos ⟨rfl, rfl⟩, if_pos e1]
  · rw [if_pos (show nI sd = 0 by rw [show sd = 0 by omega]; rfl), cr_84_14 hCR, bd_t, aB_t s zC_132 rfl (by omega) (by decide), gd_t, h3, if_neg e1]
    by_cases e2 : dr = 1
    · rw [if_neg (nI_ne0 (by omega) (by omega)), cr_84_11 hCR, bd_t, aB_t s zC_129 rfl (by omega) (by decide), gd_t, h0, max0_eq (by omega) (by omega), bd_t, nx_t]
      refine ⟨_, rfl, hCR.I, Only.rf.I rfl, fun a k h => by rw [gI_sI, if_neg h], ?_⟩
      rw [gI_sI, if_pos ⟨rfl, rfl⟩, if_pos e2]
    · rw [if_pos (show nI dr = 0 by rw [show dr = 0 by omega]; rfl), if_neg e2]
      exact ⟨_, rfl, hCR, Only.rf, fun a k h => rfl, h0⟩
theorem close_loop {M : Mem} {b m : Nat} {D : MK} {H : HS} (hH : HC M b D) (hm : m < kMi D) (hv : ∀ s, s < kNs D → H 0 s 0 ≤ 99 ∧ H 2 s 0 ≤ 1 ∧ H 3 s 0 ≤ 1) (hc0 : CTa M D H (m + 1)) (hp0 : CTp M D H m) :
    ∀ n s M', s ≤ kNs D → kNs D < n + s → Only inH M M' → (∀ a, ¬ (a = 129 ∨ (109 ≤ a ∧ a ≤ 116)) → ∀ k, gI M' a k = gI M a k) → CH M' D (clK D m s H) → CTl M' D H m → (∀ x, x < s → gI M' (109 + x) m = nI (H 1 x 0)) → ∃ M'', f_X3_closeMinute_2 n M' 84 (nI m) (nI s) = some M'' ∧ Only inH M M'' ∧ CH M'' D (clS D m H) ∧ CTa M'' D (clS D m H) (m + 1) ∧ CTl M'' D (clS D m H) (m + 1) ∧ CTp M'' D (clS D m H) (m + 1) := by
  have hn := hH.2.2.2.1.n
  have hMi := hH.2.2.2.1.mi
  intro n
  induction n with
  | zero => intro s M' h1 h2; omega
  | succ n ih =>
    intro s M' h1 h2 hO hO2 hc htl htm
    show ∃ M'', s_X3_closeMinute_2 (f_X3_closeMinute_2 n) M' 84 (nI m) (nI s) = some M'' ∧ _
    unfold s_X3_closeMinute_2
    have hH' := hH.only hO
    have hms := mb_sh b hH.1
    have hCR := hH'.2.1
    rw [oC_84, gd_t, hH'.2.2.1, bd_t, hms.1, gd_t, hH'.2.2.2.2.1.1.2.2.2.2.1]
    by_cases hk : s = kNs D
    · subst hk
      rw [if_pos (nI_le (Nat.le_refl _) (by omega)), show (0 : Int32) = nI 0 from rfl]
      have hp' : CTp M' D (clK D m (kNs D) H) m := fun y hy j hj => by
        rw [hO2 _ (by omega), hp0 y hy j hj]
        simp [clK]
      obtain ⟨M2, r1, r2, r3, r4⟩ := close2_loop hH' hm hc hp' FU 0 M' (by omega) (by unfold FU; omega) Only.rf (fun _ _ _ _ => rfl) (fun y hy => by omega)
      refine ⟨M2, r1, hO.tr (r2.mono (fun a z => by unfold inH; omega)), ?_, ?_, ?_, ?_⟩
      · refine hc.cong (fun a ha k => r2.2 a (by omega) k) (fun t i j ht => ?_) hn.2.2
        simp [clS, clK, show ¬ t = 11 by omega, show ¬ t = 12 by omega]
      · intro x hx j hj
        rw [r2.2 _ (by omega), hO2 _ (by omega), hc0 x hx j hj]
        simp [clS]
      · intro x hx j hj
        rw [r2.2 _ (by omega)]
        by_cases e : j = m
        · subst e
          rw [htm x hx]
          simp [clS, hx]
        · rw [htl x hx j (by omega)]
          simp [clS, e]
      · intro y hy j hj
        by_cases e : j = m
        · subst e
          rw [r4 y hy]
          simp [clS, clK, hy]
        · rw [r3 y hy j (by omega), hO2 _ (by omega), hp0 y hy j (by omega)]
          simp [clS, e]
    have hsl := hH.2.2.2.1.2.2.2.2.2.1 s (by omega)
    have hs8 : s < 8 := by omega
    have hvs := hv s (by omega)
    have c2 := hc.2.1 s (by omega)
    have e0 : clK D m s H 0 s 0 = H 0 s 0 := by simp [clK]
    have e1 : clK D m s H 1 s 0 = H 1 s 0 := by simp [clK]
    have e2 : clK D m s H 2 s 0 = H 2 s 0 := by simp [clK]
    have e3 : clK D m s H 3 s 0 = H 3 s 0 := by simp [clK]
    rw [e0, e1, e2, e3] at c2
    rw [if_neg (nI_ge (by omega) (by omega)), mk_7 hCR hH.1, bd_t, aB_t s hms.2.2.1 rfl (by omega) (by decide), gd_t, nI_clamp (n := s) (by omega), mk_s hCR hH.1 hs8, bd_t, hms.2.2.2.2.2.1 s hs8, gd_t, hH'.2.2.2.2.1.2.2.1 s (by omega) 5 (by decide)]
    have fin : ∀ M1 : Mem, CR M1 → Only (· = 129) M' M1 → (∀ a k, ¬ (a = 129 ∧ k = s) → gI M1 a k = gI M' a k) → gI M1 129 s = nI (clK D m (s + 1) H 0 s 0) → ∃ M'', f_X3_closeMinute_46 (f_X3_closeMinute_2 n) M1 84 (nI m) (nI s) = some M'' ∧ Only inH M M'' ∧ CH M'' D (clS D m H) ∧ CTa M'' D (clS D m H) (m + 1) ∧ CTl M'' D (clS D m H) (m + 1) ∧ CTp M'' D (clS D m H) (m + 1) := by
      intro M1 hC1 hO1 g1 e129
      unfold f_X3_closeMinute_46
      rw [oC_84, gd_t, cr_84_2 hC1, bd_t, aB_t s zC_108 rfl (by omega) (by decide), gd_t, nI_clamp (n := s) (by omega), cr_lf hC1 hs8, bd_t, cr_84_12 hC1, bd_t, aB_t s zC_130 rfl (by omega) (by decide), gd_t, aB_t m (zC_a s hs8).2.1 rfl (by omega) (by decide), gd_t, nx_t, nI_clamp (n := m) (by omega), g1 130 s (by omega), c2.2.1, nI_1]
      refine ih (s + 1) _ (by omega) (by omega) ((hO.tr (hO1.mono (fun a z => by subst z; unfold inH; omega))).I (by unfold inH; omega)) (fun a ha k => ?_) ?_ (fun x hx j hj => ?_) (fun x hx => ?_)
      · rw [gI_sI, if_neg (by omega), g1 _ _ (by omega)]
        exact hO2 a ha k
      · obtain ⟨h1', h2', h3', h4'⟩ := hc
        refine ⟨?_, fun x hx => ⟨?_, ?_, ?_, ?_⟩, fun x hx => ⟨?_, fun v hv => ?_, ?_, ?_⟩, fun j hj => ?_⟩
        · rw [gI_sI, if_neg (by omega), g1 _ _ (by omega)]
          simpa [clK] using h1'
        · rw [gI_sI, if_neg (by omega)]
          by_cases e : x = s
          · subst e; exact e129
          · rw [g1 _ _ (by omega), (h2' x hx).1]
            by_cases e2 : x < s
            · simp [clK, e2, show x < s + 1 by omega]
            · simp [clK, e2, show ¬ x < s + 1 by omega]
        · rw [gI_sI, if_neg (by omega), g1 _ _ (by omega), (h2' x hx).2.1]
          simp [clK]
        · rw [gI_sI, if_neg (by omega), g1 _ _ (by omega), (h2' x hx).2.2.1]
          simp [clK]
        · rw [gI_sI, if_neg (by omega), g1 _ _ (by omega), (h2' x hx).2.2.2]
          simp [clK]
        · rw [gI_sI, if_neg (by omega), g1 _ _ (by omega), (h3' x hx).1]
          simp [clK]
        · rw [gI_sI, if_neg (by omega), g1 _ _ (by omega), (h3' x hx).2.1 v hv]
          simp [clK]
        · rw [gI_sI, if_neg (by omega), g1 _ _ (by omega), (h3' x hx).2.2.1]
          simp [clK]
        · rw [gI_sI, if_neg (by omega), g1 _ _ (by omega), (h3' x hx).2.2.2]
          simp [clK]
        · rw [gI_sI, if_neg (by omega), g1 _ _ (by omega), gI_sI, if_neg (by omega), g1 _ _ (by omega), gI_sI, if_neg (by omega), g1 _ _ (by omega), gI_sI, if_neg (by omega), g1 _ _ (by omega)]
          simpa [clK] using h4' j (by simpa [clK] using hj)
      · rw [gI_sI, if_neg (by omega), g1 _ _ (by omega)]
        exact htl x hx j hj
      · by_cases e : x = s
        · subst e
          rw [gI_sI, if_pos ⟨rfl, rfl⟩]
        · rw [gI_sI, if_neg (by omega), g1 _ _ (by omega)]
          exact htm x (by omega)
    by_cases h5 : kSl D s 5 = 2
    · rw [if_pos (by rw [h5]; rfl), hH'.2.2.2.2.1.2.2.1 s (by omega) 6 (by decide)]
      obtain ⟨M1, r1, r2, r3, r4, r5⟩ := learn_eq hCR hs8 hvs.1 hsl.2.2.2.2.2.2 hvs.2.1 hvs.2.2 c2.1 c2.2.2.1 c2.2.2.2
      rw [r1, bd_t]
      refine fin M1 r2 r3 r4 ?_
      rw [r5]
      simp [clK, h5]
    · rw [if_neg (nI_neL (x := 2) 2 rfl h5 (by omega) (by decide))]
      refine fin _ hCR Only.rf (fun a k h => rfl) ?_
      rw [c2.1]
      simp [clK, h5]
