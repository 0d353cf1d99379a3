/-! TRADE AT A PLACE, class side -/
def bzN (D : MK) (p : Nat) : Nat → Nat
  | 0 => 0
  | i + 1 => bzN D p i + if kBy D i 0 = p then 2 ^ i else 0
theorem bz_lt (D : MK) (p : Nat) : ∀ n, bzN D p n < 2 ^ n
  | 0 => Nat.zero_lt_one
  | n + 1 => by
    have := bz_lt D p n
    unfold bzN
    rw [Nat.pow_succ]
    split <;> omega
theorem bz_bit (D : MK) (p : Nat) : ∀ n i, i < n → (bzN D p n / 2 ^ i % 2 = 1 ↔ kBy D i 0 = p)
  | 0, i, h => by omega
  | n + 1, i, h => by
    have hl := bz_lt D p n
    unfold bzN
    by_cases e : i = n
    · subst e
      by_cases hp : kBy D i 0 = p
      · rw [if_pos hp, Nat.add_div_right _ (Nat.two_pow_pos i), Nat.div_eq_of_lt hl]
        simp [hp]
      · rw [if_neg hp, Nat.add_zero, Nat.div_eq_of_lt hl]
        simp [hp]
    · rw [← bz_bit D p n i (by omega)]
      by_cases hp : kBy D n 0 = p
      · rw [if_pos hp]
        obtain ⟨d, hd⟩ : ∃ d, n = i + 1 + d := ⟨n - i - 1, by omega⟩
        have : 2 ^ n = 2 ^ i * (2 * 2 ^ d) := by rw [hd, Nat.pow_add, Nat.pow_succ, Nat.mul_assoc]
        rw [this, Nat.add_mul_div_left _ _ (Nat.two_pow_pos i), Nat.add_mul_mod_self_left]
      · rw [if_neg hp, Nat.add_zero]
theorem or_bit : ∀ i, i < 6 → ∀ v, v < 2 ^ i → nI v ||| ((1 : Int32) <<< (nI i &&& 31)) = nI (v + 2 ^ i) := by decide +kernel
theorem tst_bit : ∀ i, i < 6 → ∀ v, v < 64 → (((nI v >>> (nI i &&& 31)) &&& 1) = 1 ↔ v / 2 ^ i % 2 = 1) := by decide +kernel
theorem buyersAt_eq {M : Mem} {b p : Nat} {D : MK} (hb : b ∈ MB) (hCR : CR M) (hW : WFD D) (hC : CM M b D) (hp : p < 100) : f_X4_buyersAt M b (nI p) = some (nI (bzN D p (kNb D))) := by
  have hn := hW.n
  have hms := mb_sh b hb
  have key : ∀ n k, k ≤ kNb D → kNb D < n + k → f_X4_buyersAt_4 M n b (nI p) (nI (bzN D p k)) (nI k) = some (nI (bzN D p (kNb D))) := by
    intro n
    induction n with
    | zero => intro k h1 h2; omega
    | succ n ih =>
      intro k h1 h2
      show s_X4_buyersAt_4 M (f_X4_buyersAt_4 M n) b (nI p) (nI (bzN D p k)) (nI k) = _
      unfold s_X4_buyersAt_4
      rw [hms.1, gd_t, hC.1.2.2.2.2.2]
      by_cases hk : k = kNb D
      · subst hk
        rw [if_pos (nI_le (Nat.le_refl _) (by omega))]
      have hp12 := hW.p
      have hpl := (hW.2.2.2.2.2.2 k (by omega)).1
      rw [if_neg (nI_ge (by omega) (by omega)), mk_8 hCR hb, bd_t, aB_t k hms.2.2.2.1 rfl (by omega) (by decide), gd_t, nI_clamp (by omega), mk_b hCR hb (by omega), bd_t, (hms.2.2.2.2.2.2 k (by omega)).1, gd_t, (hC.2.2.2 k (by omega)).1 0 (by decide), nI_1]
      have := ih (k + 1) (by omega) (by omega)
      rw [show bzN D p (k + 1) = bzN D p k + (if kBy D k 0 = p then 2 ^ k else 0) from rfl] at this
      by_cases e : kBy D k 0 = p
      · rw [if_pos (by rw [e]), or_bit k (by omega) _ (bz_lt D p k)]
        rw [if_pos e] at this
        exact this
      · rw [if_neg (fun z => e ((nI_eq (by omega) (by omega)).mp z))]
        rw [if_neg e, Nat.add_zero] at this
        exact this
  exact key FU 0 (by omega) (by unfold FU; omega)
theorem iv_trB {D : MK} {m p s : Nat} {H : HS} (h : IvH D m H) (hW : WFD D) (hs : s < kNs D) : ∀ k, k ≤ kNb D → IvH D m (trB D m p s H k)
  | 0, _ => h
  | k + 1, hk => by
    have := iv_trB h hW hs (p := p) k (by omega)
    unfold trB
    split
    · exact this.mt hW hs (by omega)
    · exact this
theorem iv_trS {D : MK} {m p : Nat} {H : HS} (h : IvH D m H) (hW : WFD D) : ∀ k, k ≤ kNs D → IvH D m (trS D m p H k)
  | 0, _ => h
  | k + 1, hk => by
    have := iv_trS h hW (p := p) k (by omega)
    unfold trS
    split
    · exact iv_trB this hW (by omega) _ (Nat.le_refl _)
    · exact this
theorem iv_trP {D : MK} {m : Nat} {H : HS} (h : IvH D m H) (hW : WFD D) : ∀ k, IvH D m (trP D m H k)
  | 0 => h
  | k + 1 => by
    have := iv_trP h hW k
    unfold trP
    exact iv_trS this hW _ (Nat.le_refl _)
theorem tradeB_loop {M : Mem} {b p s m : Nat} {D : MK} {H : HS} (hH : HC M b D) (hv : IvH D m H) (hs : s < kNs D) (hm : m < kMi D) (k17 : Mem → Nat → Int32 → Int32 → Int32 → Int32 → Option Mem) :
    ∀ n k M', k ≤ kNb D → kNb D < n + k → Only inM M M' → CH M' D (trB D m p s H k) → ∃ M'', f_X3_tradeAt_51 k17 n M' 84 (nI p) (nI m) (nI (bzN D p (kNb D))) (nI s) (nI k) = k17 M'' 84 (nI p) (nI m) (nI (bzN D p (kNb D))) (nI (s + 1)) ∧ Only inM M M'' ∧ CH M'' D (trB D m p s H (kNb D)) := by
  have hn := hH.2.2.2.1.n
  intro n
  induction n with
  | zero => intro k M' h1 h2; omega
  | succ n ih =>
    intro k M' h1 h2 hO hc
    show ∃ M'', s_X3_tradeAt_51 k17 (f_X3_tradeAt_51 k17 n) M' 84 (nI p) (nI m) (nI (bzN D p (kNb D))) (nI s) (nI k) = _ ∧ _
    unfold s_X3_tradeAt_51
    have hH' := hH.only (hO.mono (fun _ => inM_H))
    rw [oC_84, gd_t, hH'.2.2.1, bd_t, (mb_sh b hH.1).1, gd_t, hH'.2.2.2.2.1.1.2.2.2.2.2]
    by_cases hk : k = kNb D
    · subst hk
      rw [if_pos (nI_le (Nat.le_refl _) (by omega)), nI_1]
      exact ⟨M', rfl, hO, hc⟩
    have hlt : bzN D p (kNb D) < 64 := Nat.lt_of_lt_of_le (bz_lt D p (kNb D)) (show 2 ^ kNb D ≤ 2 ^ 6 from Nat.pow_le_pow_right (by decide) (by omega))
    have hbit := (tst_bit k (by omega) _ hlt).trans (bz_bit D p (kNb D) k (by omega))
    rw [if_neg (nI_ge (by omega) (by omega)), nI_1]
    by_cases e : kBy D k 0 = p
    · rw [if_pos (hbit.mpr e)]
      obtain ⟨M2, r1, r2, r3⟩ := meet_eq hH' hc (iv_trB hv hH.2.2.2.1 hs k h1) hs (i := k) (by omega) hm
      rw [r1, bd_t]
      exact ih (k + 1) M2 (by omega) (by omega) (hO.tr r2) (by unfold trB; rw [if_pos e]; exact r3)
    · rw [if_neg (fun z => e (hbit.mp z))]
      exact ih (k + 1) M' (by omega) (by omega) hO (by unfold trB; rw [if_neg e]; exact hc)
theorem tradeS_loop {M : Mem} {b p m : Nat} {D : MK} {H : HS} (hH : HC M b D) (hv : IvH D m H) (hp : p < 100) (hm : m < kMi D) :
    ∀ n s M', s ≤ kNs D → kNs D < n + s → Only inM M M' → CH M' D (trS D m p H s) → ∃ M'', f_X3_tradeAt_17 n M' 84 (nI p) (nI m) (nI (bzN D p (kNb D))) (nI s) = some M'' ∧ Only inM M M'' ∧ CH M'' D (trS D m p H (kNs D)) := by
  have hn := hH.2.2.2.1.n
  have hMi := hH.2.2.2.1.mi
  intro n
  induction n with
  | zero => intro s M' h1 h2; omega
  | succ n ih =>
    intro s M' h1 h2 hO hc
    show ∃ M'', s_X3_tradeAt_17 (f_X3_tradeAt_17 n) M' 84 (nI p) (nI m) (nI (bzN D p (kNb D))) (nI s) = some M'' ∧ _
    unfold s_X3_tradeAt_17
    have hH' := hH.only (hO.mono (fun _ => inM_H))
    rw [oC_84, gd_t, hH'.2.2.1, bd_t, (mb_sh b hH.1).1, gd_t, hH'.2.2.2.2.1.1.2.2.2.2.1]
    by_cases hk : s = kNs D
    · subst hk
      rw [if_pos (nI_le (Nat.le_refl _) (by omega))]
      exact ⟨M', rfl, hO, hc⟩
    have hP := hH.2.2.2.1.p
    have hpl := kPl_lt (hH.2.2.2.1.p0 (Or.inl (by omega))) s m
    rw [if_neg (nI_ge (by omega) (by omega)), cr_84_0 hH'.2.1, bd_t, oC_85, gd_t, cr_85_1 hH'.2.1, bd_t, aB_t s zC_90 rfl (by omega) (by decide), gd_t, nI_clamp (n := s) (by omega), cr_p hH'.2.1 (by omega), bd_t, aB_t m (zC_p s (by omega)).1 rfl (by omega) (by decide), gd_t, nI_clamp (n := m) (by omega), hH'.2.2.2.2.2.2 s (by omega) m hm, nI_1]
    by_cases e : kPl D s m = p
    · rw [if_pos (by rw [e])]
      obtain ⟨M2, r1, r2, r3⟩ := tradeB_loop (M := M') (H := trS D m p H s) (p := p) hH' (iv_trS hv hH.2.2.2.1 s h1) (s := s) (by omega) hm (f_X3_tradeAt_17 n) FU 0 M' (by omega) (by unfold FU; omega) Only.rf hc
      rw [show (0 : Int32) = nI 0 from rfl, r1]
      exact ih (s + 1) M2 (by omega) (by omega) (hO.tr r2) (by unfold trS; rw [if_pos e]; exact r3)
    · rw [if_neg (fun z => e ((nI_eq (by omega) (by omega)).mp z))]
      exact ih (s + 1) M' (by omega) (by omega) hO (by unfold trS; rw [if_neg e]; exact hc)
theorem trB_none {D : MK} {m p s : Nat} {H : HS} : ∀ k, (∀ i, i < k → kBy D i 0 ≠ p) → trB D m p s H k = H
  | 0, _ => rfl
  | k + 1, h => by
    unfold trB
    rw [if_neg (h k (by omega))]
    exact trB_none k (fun i hi => h i (by omega))
theorem trS_none {D : MK} {m p : Nat} {H : HS} (h : ∀ i, i < kNb D → kBy D i 0 ≠ p) : ∀ k, trS D m p H k = H
  | 0 => rfl
  | k + 1 => by
    unfold trS
    rw [trS_none h k, trB_none _ h]
    split <;> rfl
theorem tradeAt_eq {M : Mem} {b p m : Nat} {D : MK} {H : HS} (hH : HC M b D) (hc : CH M D H) (hv : IvH D m H) (hp : p < 100) (hm : m < kMi D) : ∃ M', f_X3_tradeAt M 84 (nI p) (nI m) = some M' ∧ Only inM M M' ∧ CH M' D (trS D m p H (kNs D)) := by
  have hn := hH.2.2.2.1.n
  unfold f_X3_tradeAt
  rw [oC_84, gd_t, hH.2.2.1, bd_t, (mb_sh b hH.1).1, gd_t, buyersAt_eq hH.1 hH.2.1 hH.2.2.2.1 hH.2.2.2.2.1 hp, bd_t]
  have hlt : bzN D p (kNb D) < 64 := Nat.lt_of_lt_of_le (bz_lt D p (kNb D)) (show 2 ^ kNb D ≤ 2 ^ 6 from Nat.pow_le_pow_right (by decide) (by omega))
  by_cases e : bzN D p (kNb D) = 0
  · rw [if_pos (by rw [e]; rfl), trS_none (fun i hi z => by
      have := (bz_bit D p (kNb D) i hi).mpr z
      rw [e, Nat.zero_div] at this
      omega)]
    exact ⟨M, rfl, Only.rf, hc⟩
  · rw [if_neg (nI_ne0 (by omega) (by omega))]
    exact tradeS_loop hH hv hp hm FU 0 M (by omega) (by unfold FU; omega) Only.rf hc
