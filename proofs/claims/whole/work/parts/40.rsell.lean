/-! A SALE, the reference: what its cells hold then -/
theorem wouldR_no {M : Mem} {D : MK} {H : HS} {b asks limit m : Nat} (h : RC M D) (hb : b < kNb D) (hm : m < kMi D) (ha : limit < asks) (hl : asks ≤ 99) (h13 : ∀ j, j < 60 → gI M 27 (60 * b + j) = nI (H 13 b j)) : f_X11_would M 0 (nI b) (nI limit) (nI asks) (nI m) = some 0 := by
  have hR := h.1
  have hn := h.2.1.n
  have hMi := h.2.1.mi
  have hby := h.2.1.2.2.2.2.2.2 b hb
  have e97 : f_X11_would_97 M (nI limit) (nI asks) = some 0 := by
    unfold f_X11_would_97
    rw [if_pos (nI_lt ha (by omega))]
  have m60 : (60 : Int32) * nI b + nI m = nI (60 * b + m) := by rw [show (60 : Int32) = nI 60 from rfl, pk_mul, nI_add]
  have e72 : f_X11_would_72 M 0 (nI b) (nI limit) (nI asks) (nI m) = some 0 := by
    unfold f_X11_would_72
    by_cases c : m ≤ 1
    · rw [if_pos (show nI m ≤ 1 from nI_le (b := 1) c (by decide)), e97]
    · rw [if_neg (show ¬ nI m ≤ 1 from nI_ge (a := 1) (by omega) (by omega)), oR, gd_t, rr_41 hR, bd_t, m60, show nI (60 * b + m) - 2 = nI (60 * b + (m - 2)) by rw [show (2 : Int32) = nI 2 from rfl, pk_sub (by omega), show 60 * b + m - 2 = 60 * b + (m - 2) by omega], aB_t (60 * b + (m - 2)) zR_27 rfl (by omega) (by decide), gd_t, nx_t]
      split
      · exact e97
      · rfl
  have e44 : f_X11_would_44 M 0 (nI b) (nI limit) (nI asks) (nI m) (nI (kBy D b 2)) = some 0 := by
    unfold f_X11_would_44
    by_cases h2 : kBy D b 2 = 2
    · rw [if_pos (by rw [h2]; rfl)]
      by_cases c : m = 0
      · subst c
        rw [if_pos (by decide), e72]
      · rw [if_neg (nI_nle (n := m) (by omega) (by omega)), oR, gd_t, rr_41 hR, bd_t, m60, show nI (60 * b + m) - 1 = nI (60 * b + (m - 1)) by rw [show (1 : Int32) = nI 1 from rfl, pk_sub (by omega), show 60 * b + m - 1 = 60 * b + (m - 1) by omega], aB_t (60 * b + (m - 1)) zR_27 rfl (by omega) (by decide), gd_t, nx_t]
        split
        · exact e72
        · rfl
    · rw [if_neg (nI_neL (x := 2) 2 rfl h2 (by omega) (by decide))]
      exact e97
  unfold f_X11_would
  rw [oR, gd_t, rr_20 hR, bd_t, show (4 : Int32) * nI b + 2 = nI (4 * b + 2) by rw [show (4 : Int32) = nI 4 from rfl, pk_mul, show (2 : Int32) = nI 2 from rfl, nI_add], aB_t (4 * b + 2) zR_10 rfl (by omega) (by decide), gd_t, nx_t, nI_clamp (by omega), h.by hb (j := 2) (by decide)]
  by_cases h1 : kBy D b 2 = 1
  · rw [if_pos (by rw [h1]; rfl), rr_17 hR, bd_t, aB_l (i := 1) zR_7 (by decide), gd_t]
    split
    · exact e44
    · rw [show nI limit / (2 : Int32) = nI (limit / 2) by rw [show (2 : Int32) = nI 2 from rfl, pk_div (by omega) (by decide) (by decide)], if_pos (nI_lt (by omega) (by omega))]
  · rw [if_neg (nI_neL (x := 1) 1 rfl h1 (by omega) (by decide))]
    exact e44
theorem RH.cong {M M' : Mem} {D : MK} {H : HS} (h : RH M D H) (e : ∀ a k, gI M' a k = gI M a k) : RH M' D H := by
  unfold RH
  simp only [e]
  exact h
theorem tkS_cong {H H' : HS} {s : Nat} : ∀ n, (∀ i, i < n → ∀ j, H' 9 i j = H 9 i j) → tkS H' s n = tkS H s n
  | 0, _ => rfl
  | n + 1, h => by
    unfold tkS
    rw [tkS_cong n (fun i hi => h i (by omega)), h n (by omega), h n (by omega)]
theorem ctS_cong {H H' : HS} {s : Nat} : ∀ n, (∀ i, i < n → ∀ j, H' 9 i j = H 9 i j) → ctS H' s n = ctS H s n
  | 0, _ => rfl
  | n + 1, h => by
    unfold ctS
    rw [ctS_cong n (fun i hi => h i (by omega)), h n (by omega)]
theorem fsS_cong {H H' : HS} {s : Nat} : ∀ n, (∀ i, i < n → ∀ j, H' 9 i j = H 9 i j) → fsS H' s n = fsS H s n
  | 0, _ => rfl
  | n + 1, h => by
    unfold fsS
    rw [fsS_cong n (fun i hi => h i (by omega)), h n (by omega), h n (by omega)]
theorem gtS_cong {H H' : HS} {b : Nat} : ∀ n, (∀ i, i < n → ∀ j, H' 9 i j = H 9 i j) → gtS H' b n = gtS H b n
  | 0, _ => rfl
  | n + 1, h => by
    unfold gtS
    rw [gtS_cong n (fun i hi => h i (by omega)), h n (by omega)]
theorem pdS_cong {H H' : HS} : ∀ n, (∀ i, i < n → ∀ j, H' 9 i j = H 9 i j) → pdS H' n = pdS H n
  | 0, _ => rfl
  | n + 1, h => by
    unfold pdS
    rw [pdS_cong n (fun i hi => h i (by omega)), h n (by omega)]
theorem fsS_le {H : HS} {s : Nat} : ∀ n, (∀ i, i < n → H 9 i 0 ≤ 60) → fsS H s n ≤ 61
  | 0, _ => by unfold fsS; omega
  | n + 1, h => by
    have h1 := fsS_le (H := H) (s := s) n (fun i hi => h i (by omega))
    have h2 := h n (by omega)
    unfold fsS
    split
    · split <;> omega
    · exact h1
theorem RH.dr {M : Mem} {D : MK} {H : HS} {s : Nat} (h : RH M D H) : RH (sI M 22 s 1) D (drS H s) := by
  have e : ∀ a k, a ≠ 22 → gI (sI M 22 s 1) a k = gI M a k := fun a k q => by rw [gI_sI, if_neg (fun z => q z.1)]
  have e9 : ∀ n, ∀ i, i < n → ∀ j, drS H s 9 i j = H 9 i j := fun n i _ j => by simp [drS]
  have e8 : drS H s 8 0 0 = H 8 0 0 := by simp [drS]
  refine ⟨?_, fun i hi => ?_, fun b hb => ?_, fun i hi j hj => ?_⟩
  · rw [e8, pdS_cong _ (e9 _), e 0 _ (by decide), e 0 _ (by decide)]
    exact h.1
  · have := h.2.1 i hi
    rw [e8, tkS_cong _ (e9 _), ctS_cong _ (e9 _), fsS_cong _ (e9 _), e 16 _ (by decide), e 17 _ (by decide), e 18 _ (by decide), e 19 _ (by decide), e 20 _ (by decide), e 21 _ (by decide), gI_sI]
    refine ⟨this.1, this.2.1, this.2.2.1, this.2.2.2.1, this.2.2.2.2.1, this.2.2.2.2.2.1, ?_⟩
    by_cases q : i = s
    · rw [if_pos ⟨rfl, q⟩]
      simp [drS, q]
      rfl
    · rw [if_neg (fun z => q z.2), this.2.2.2.2.2.2]
      simp [drS, q]
  · have := h.2.2.1 b hb
    rw [e8, gtS_cong _ (e9 _), e 23 _ (by decide), e 24 _ (by decide), e 25 _ (by decide)]
    refine ⟨this.1, this.2.1, this.2.2.1, fun w hw => ?_, fun j hj => ?_⟩
    · rw [e 26 _ (by decide)]
      exact this.2.2.2.1 w hw
    · rw [e 27 _ (by decide)]
      exact this.2.2.2.2 j hj
  · rw [e8] at hi
    rw [e 31 _ (by decide)]
    exact h.2.2.2 i hi j hj
