/-! A MINUTE, class side -/
theorem max0_eq {M : Mem} {a c : Nat} (ha : a < 1000) (hc : c < 100000) : f_X20_max M 0 (nI a - nI c) = some (nI (a - c)) := by
  have ht : (nI a - nI c).toInt = (a : Int) - c := pk_sub_toInt (by omega) (by omega)
  unfold f_X20_max
  by_cases h : c ≤ a
  · rw [pk_sub h]
    by_cases h0 : a - c = 0
    · rw [h0]
      split <;> rfl
    · rw [if_pos (show (0 : Int32) < nI (a - c) from nI_lt (a := 0) (by omega) (by omega))]
  · rw [if_neg (fun z => by
      have := Int32.lt_iff_toInt_lt.mp z
      rw [ht] at this
      have e : (0 : Int32).toInt = 0 := rfl
      omega), show a - c = 0 by omega]
    rfl
theorem min99_eq {M : Mem} {a : Nat} (ha : a < 1000) : f_X20_min M 99 (nI a) = some (nI (min 99 a)) := by
  unfold f_X20_min
  by_cases h : a < 99
  · rw [if_pos (show nI a < (99 : Int32) from nI_lt (b := 99) h (by decide)), Nat.min_eq_right (by omega)]
  · rw [if_neg (show ¬ nI a < (99 : Int32) from nI_nlt (b := 99) (by omega) (by omega)), Nat.min_eq_left (by omega)]
    rfl
theorem quiet_eq {M : Mem} {b s m : Nat} {D : MK} (hH : HC M b D) (hs : s < kNs D) (hm : m < kMi D) : f_X2_quietPrice M 85 (b + 7 + s) (nI m) = some (nI (qpS D s m)) ∧ qpS D s m ≤ 99 := by
  obtain ⟨hb, hCR, -, hW, hC, hT, -⟩ := hH
  have hn := hW.n
  have hMi := hW.mi
  have hms := mb_sh b hb
  have hsl := hW.2.2.2.2.2.1 s hs
  have hle := kTn_le D (kSl D s 0) m
  unfold f_X2_quietPrice qpS
  rw [hms.2.2.2.2.2.1 s (by omega), gd_t, hC.2.2.1 s hs 5 (by decide), hC.2.2.1 s hs 4 (by decide), hC.2.2.1 s hs 6 (by decide), hC.2.2.1 s hs 0 (by decide)]
  by_cases h1 : kSl D s 5 = 1
  · rw [if_pos (by rw [h1]; rfl), if_pos h1, oC_85, gd_t, cr_85_0 hCR, bd_t, aB_t (kSl D s 0) zC_86 rfl (by omega) (by decide), gd_t, nI_clamp (by omega), cr_t hCR (by omega), bd_t, aB_t m (zC_t _ (by omega)).1 rfl (by omega) (by decide), gd_t, nI_clamp (by omega), nx_t, hT _ hsl.1 m hm, pk_mul]
    have hmul : kSl D s 6 * kTn D (kSl D s 0) m ≤ 20 * 61 := Nat.mul_le_mul hsl.2.2.2.2.2.2 (by omega)
    rw [max0_eq (by omega) (by omega), bd_t]
    exact ⟨rfl, by omega⟩
  · rw [if_neg (nI_neL (x := 1) 1 rfl h1 (by omega) (by decide)), if_neg h1]
    exact ⟨rfl, hsl.2.2.2.2.1⟩
/-- the tables of asked prices, of what is left, of purses, up to n -/
def CTa (M : Mem) (D : MK) (H : HS) (n : Nat) : Prop := ∀ s, s < kNs D → ∀ j, j < n → gI M (100 + s) j = nI (H 10 s j)
def CTl (M : Mem) (D : MK) (H : HS) (n : Nat) : Prop := ∀ s, s < kNs D → ∀ j, j < n → gI M (109 + s) j = nI (H 11 s j)
def CTp (M : Mem) (D : MK) (H : HS) (n : Nat) : Prop := ∀ b, b < kNb D → ∀ j, j < n → gI M (118 + b) j = nI (H 12 b j)
theorem zC_a : ∀ s, s < 8 → (shC (100 + s) = (100, 60) ∧ CRf 99 s = some (100 + s) ∧ mutB 99 s = false) ∧ (shC (109 + s) = (100, 60) ∧ CRf 108 s = some (109 + s) ∧ mutB 108 s = false) := by decide +kernel
theorem zC_u : ∀ b, b < 6 → shC (118 + b) = (100, 60) ∧ CRf 117 b = some (118 + b) ∧ mutB 117 b = false := by decide +kernel
theorem cr_a {M : Mem} (h : CR M) {s : Nat} (hs : s < 8) : gR M 99 s = some (100 + s) := (h _ _ (zC_a s hs).1.2.2).trans (zC_a s hs).1.2.1
theorem cr_lf {M : Mem} (h : CR M) {s : Nat} (hs : s < 8) : gR M 108 s = some (109 + s) := (h _ _ (zC_a s hs).2.2.2).trans (zC_a s hs).2.2.1
theorem cr_u {M : Mem} (h : CR M) {b : Nat} (hb : b < 6) : gR M 117 b = some (118 + b) := (h _ _ (zC_u b hb).2.2).trans (zC_u b hb).2.1
/-- the stalls ahead of k are opened -/
def opK (D : MK) (m k : Nat) (H : HS) : HS := fun t i j =>
  if t = 0 ∧ i < k ∧ kSl D i 5 = 1 then qpS D i m else if t = 10 ∧ i < k ∧ j = m then (if kSl D i 5 = 1 then qpS D i m else H 0 i 0) else if (t = 2 ∨ t = 3) ∧ i < k then 0 else H t i j
theorem open_loop {M : Mem} {b m : Nat} {D : MK} {H : HS} (hH : HC M b D) (hm : m < kMi D) :
    ∀ n s M', s ≤ kNs D → kNs D < n + s → Only inH M M' → (∀ a, ¬ (a = 84 ∨ (100 ≤ a ∧ a ≤ 107) ∨ (129 ≤ a ∧ a ≤ 132)) → ∀ k, gI M' a k = gI M a k) → CH M' D (opK D m s H) → CTa M' D H m → (∀ x, x < s → gI M' (100 + x) m = nI (opK D m s H 10 x m)) → ∃ M'', f_X3_openMinute_2 n M' 84 (nI m) (nI s) = some M'' ∧ Only inH M M'' ∧ (∀ a, ¬ (a = 84 ∨ (100 ≤ a ∧ a ≤ 107) ∨ (129 ≤ a ∧ a ≤ 132)) → ∀ k, gI M'' a k = gI M a k) ∧ CH M'' D (opS D m H) ∧ CTa M'' D (opS D m H) (m + 1) := by
  have hn := hH.2.2.2.1.n
  have hMi := hH.2.2.2.1.mi
  intro n
  induction n with
  | zero => intro s M' h1 h2; omega
  | succ n ih =>
    intro s M' h1 h2 hO hO2 hc hta htm
    show ∃ M'', s_X3_openMinute_2 (f_X3_openMinute_2 n) M' 84 (nI m) (nI s) = some M'' ∧ _
    unfold s_X3_openMinute_2
    have hH' := hH.only hO
    have hms := mb_sh b hH.1
    have hCR := hH'.2.1
    rw [oC_84, gd_t, hH'.2.2.1, bd_t, hms.1, gd_t, hH'.2.2.2.2.1.1.2.2.2.2.1]
    by_cases hk : s = kNs D
    · subst hk
      rw [if_pos (nI_le (Nat.le_refl _) (by omega))]
      refine ⟨M', rfl, hO, hO2, hc, fun x hx j hj => ?_⟩
      by_cases e : j = m
      · subst e
        exact htm x hx
      · rw [hta x hx j (by omega)]
        simp [opS, e]
    have hsl := hH.2.2.2.1.2.2.2.2.2.1 s (by omega)
    have hs8 : s < 8 := by omega
    obtain ⟨hq, hq99⟩ := quiet_eq hH' (s := s) (by omega) hm
    rw [if_neg (nI_ge (by omega) (by omega)), mk_7 hCR hH.1, bd_t, aB_t s hms.2.2.1 rfl (by omega) (by decide), gd_t, nI_clamp (n := s) (by omega), mk_s hCR hH.1 hs8, bd_t, hms.2.2.2.2.2.1 s hs8, gd_t, hH'.2.2.2.2.1.2.2.1 s (by omega) 5 (by decide)]
    -- what is done once the price stands
    have fin : ∀ M1 : Mem, CR M1 → Only inH M' M1 → (∀ a k, ¬ (a = 129 ∧ k = s) → gI M1 a k = gI M' a k) → gI M1 129 s = nI (opK D m (s + 1) H 0 s 0) → ∃ M'', f_X3_openMinute_52 (f_X3_openMinute_2 n) M1 84 (nI m) (nI s) = some M'' ∧ Only inH M M'' ∧ (∀ a, ¬ (a = 84 ∨ (100 ≤ a ∧ a ≤ 107) ∨ (129 ≤ a ∧ a ≤ 132)) → ∀ k, gI M'' a k = gI M a k) ∧ CH M'' D (opS D m H) ∧ CTa M'' D (opS D m H) (m + 1) := by
      intro M1 hC1 hO1 g1 e129
      unfold f_X3_openMinute_52
      rw [oC_84, gd_t, cr_84_1 hC1, bd_t, aB_t s zC_99 rfl (by omega) (by decide), gd_t, nI_clamp (n := s) (by omega), cr_a hC1 hs8, bd_t, cr_84_11 hC1, bd_t, aB_t s zC_129 rfl (by omega) (by decide), gd_t, aB_t m (zC_a s hs8).1.1 rfl (by omega) (by decide), gd_t, nx_t, nI_clamp (n := m) (by omega), e129, cr_84_13 hC1.I, bd_t, aB_t s zC_131 rfl (by omega) (by decide), gd_t, nx_t, vpn0, cr_84_14 hC1.I.I, bd_t, aB_t s zC_132 rfl (by omega) (by decide), gd_t, nx_t, nI_1]
      have gg : ∀ a k, ¬ ((a = 100 + s ∧ k = m) ∨ (a = 131 ∧ k = s) ∨ (a = 132 ∧ k = s)) → gI (sI (sI (sI M1 (100 + s) m (nI (opK D m (s + 1) H 0 s 0))) 131 s 0) 132 s 0) a k = gI M1 a k := fun a k h => by
        rw [gI_sI, if_neg (by omega), gI_sI, if_neg (by omega), gI_sI, if_neg (by omega)]
      have k100 : gI (sI (sI (sI M1 (100 + s) m (nI (opK D m (s + 1) H 0 s 0))) 131 s 0) 132 s 0) (100 + s) m = nI (opK D m (s + 1) H 0 s 0) := by
        rw [gI_sI, if_neg (by omega), gI_sI, if_neg (by omega), gI_sI, if_pos ⟨rfl, rfl⟩]
      have k131 : gI (sI (sI (sI M1 (100 + s) m (nI (opK D m (s + 1) H 0 s 0))) 131 s 0) 132 s 0) 131 s = 0 := by
        rw [gI_sI, if_neg (by omega), gI_sI, if_pos ⟨rfl, rfl⟩]
      have k132 : gI (sI (sI (sI M1 (100 + s) m (nI (opK D m (s + 1) H 0 s 0))) 131 s 0) 132 s 0) 132 s = 0 := by
        rw [gI_sI, if_pos ⟨rfl, rfl⟩]
      have hO3 : Only inH M1 (sI (sI (sI M1 (100 + s) m (nI (opK D m (s + 1) H 0 s 0))) 131 s 0) 132 s 0) := ((Only.rf.I (by unfold inH; omega)).I (by unfold inH; omega)).I (by unfold inH; omega)
      generalize sI (sI (sI M1 (100 + s) m (nI (opK D m (s + 1) H 0 s 0))) 131 s 0) 132 s 0 = M2 at *
      have o10 : ∀ x, x < s → opK D m (s + 1) H 10 x m = opK D m s H 10 x m := fun x hx => by simp [opK, hx, show x < s + 1 by omega]
      refine ih (s + 1) M2 (by omega) (by omega) ((hO.tr hO1).tr hO3) (fun a ha k => ?_) ?_ (fun x hx j hj => ?_) (fun x hx => ?_)
      · rw [gg _ _ (by omega), g1 _ _ (by omega)]
        exact hO2 a ha k
      · obtain ⟨h1', h2', h3', h4'⟩ := hc
        refine ⟨?_, fun x hx => ⟨?_, ?_, ?_, ?_⟩, fun x hx => ⟨?_, fun v hv => ?_, ?_, ?_⟩, fun j hj => ?_⟩
        · rw [gg _ _ (by omega), g1 _ _ (by omega)]
          simpa [opK] using h1'
        · rw [gg _ _ (by omega)]
          by_cases e : x = s
          · subst e; exact e129
          · rw [g1 _ _ (by omega), (h2' x hx).1]
            by_cases e2 : x < s
            · simp [opK, e2, show x < s + 1 by omega]
            · simp [opK, e2, show ¬ x < s + 1 by omega]
        · rw [gg _ _ (by omega), g1 _ _ (by omega), (h2' x hx).2.1]
          simp [opK]
        · by_cases e : x = s
          · subst e
            rw [k131]
            simp [opK]
            rfl
          · rw [gg _ _ (by omega), g1 _ _ (by omega), (h2' x hx).2.2.1]
            by_cases e2 : x < s
            · simp [opK, e2, show x < s + 1 by omega]
            · simp [opK, e2, show ¬ x < s + 1 by omega]
        · by_cases e : x = s
          · subst e
            rw [k132]
            simp [opK]
            rfl
          · rw [gg _ _ (by omega), g1 _ _ (by omega), (h2' x hx).2.2.2]
            by_cases e2 : x < s
            · simp [opK, e2, show x < s + 1 by omega]
            · simp [opK, e2, show ¬ x < s + 1 by omega]
        · rw [gg _ _ (by omega), g1 _ _ (by omega), (h3' x hx).1]
          simp [opK]
        · rw [gg _ _ (by omega), g1 _ _ (by omega), (h3' x hx).2.1 v hv]
          simp [opK]
        · rw [gg _ _ (by omega), g1 _ _ (by omega), (h3' x hx).2.2.1]
          simp [opK]
        · rw [gg _ _ (by omega), g1 _ _ (by omega), (h3' x hx).2.2.2]
          simp [opK]
        · rw [gg _ _ (by omega), g1 _ _ (by omega), gg _ _ (by omega), g1 _ _ (by omega), gg _ _ (by omega), g1 _ _ (by omega), gg _ _ (by omega), g1 _ _ (by omega)]
          simpa [opK] using h4' j (by simpa [opK] using hj)
      · rw [gg _ _ (by omega), g1 _ _ (by omega)]
        exact hta x hx j hj
      · by_cases e : x = s
        · subst e
          rw [k100]
          by_cases e5 : kSl D x 5 = 1
          · simp [opK, e5]
          · simp [opK, e5]
        · rw [gg _ _ (by omega), g1 _ _ (by omega), o10 x (by omega)]
          exact htm x (by omega)
    by_cases h5 : kSl D s 5 = 1
    · rw [if_pos (by rw [h5]; rfl), cr_84_11 hCR, bd_t, cr_84_0 hCR, bd_t, oC_85, gd_t, hq, bd_t, aB_t s zC_129 rfl (by omega) (by decide), gd_t, nx_t]
      refine fin _ hCR.I (Only.rf.I (by unfold inH; omega)) (fun a k h => by rw [gI_sI, if_neg h]) ?_
      rw [gI_sI, if_pos ⟨rfl, rfl⟩]
      simp [opK, h5]
    · rw [if_neg (nI_neL (x := 1) 1 rfl h5 (by omega) (by decide))]
      refine fin _ hCR Only.rf (fun a k h => rfl) ?_
      rw [(hc.2.1 s (by omega)).1]
      simp [opK, h5]
