/-! AN HOUR, the reference: what its cells hold -/
/-- sums over the first n sales -/
def tkS (H : HS) (s : Nat) : Nat → Nat
  | 0 => 0
  | i + 1 => tkS H s i + if H 9 i 1 = s then H 9 i 3 else 0
def ctS (H : HS) (s : Nat) : Nat → Nat
  | 0 => 0
  | i + 1 => ctS H s i + if H 9 i 1 = s then 1 else 0
/-- the first sale's minute + 1, 0 none -/
def fsS (H : HS) (s : Nat) : Nat → Nat
  | 0 => 0
  | i + 1 => if fsS H s i = 0 then (if H 9 i 1 = s then H 9 i 0 + 1 else 0) else fsS H s i
def gtS (H : HS) (b : Nat) : Nat → Nat
  | 0 => 0
  | i + 1 => gtS H b i + if H 9 i 2 = b then 1 else 0
def pdS (H : HS) : Nat → Nat
  | 0 => 0
  | i + 1 => pdS H i + H 9 i 3
def RH (M : Mem) (D : MK) (H : HS) : Prop := (gI M 0 46 = nI (H 8 0 0) ∧ gI M 0 47 = nI (pdS H (H 8 0 0))) ∧
  (∀ s, s < kNs D → gI M 16 s = nI (H 1 s 0) ∧ (kSl D s 5 ≠ 1 → gI M 17 s = nI (H 0 s 0)) ∧ gI M 18 s = nI (tkS H s (H 8 0 0)) ∧ gI M 19 s = nI (ctS H s (H 8 0 0)) ∧ gI M 20 s = (if fsS H s (H 8 0 0) = 0 then -1 else nI (fsS H s (H 8 0 0) - 1)) ∧ gI M 21 s = nI (H 2 s 0) ∧ gI M 22 s = nI (H 3 s 0)) ∧
  (∀ b, b < kNb D → gI M 23 b = nI (H 4 b 0) ∧ gI M 24 b = nI (gtS H b (H 8 0 0)) ∧ gI M 25 b = (if H 7 b 0 = 0 then -1 else nI (H 7 b 0 - 1)) ∧ (∀ w, w < 3 → gI M 26 (3 * b + w) = nI (if w < kBy D b 3 then H 5 b w else 0)) ∧ ∀ j, j < 60 → gI M 27 (60 * b + j) = nI (H 13 b j)) ∧
  (∀ i, i < H 8 0 0 → ∀ j, j < 4 → gI M 31 (4 * i + j) = nI (H 9 i j))
/-- in the minute m, what a stall that falls asks is its quiet price -/
def PrI (D : MK) (m : Nat) (H : HS) : Prop := ∀ s, s < kNs D → kSl D s 5 = 1 → H 0 s 0 = qpS D s m
theorem asked_eq {M : Mem} {D : MK} {H : HS} {s m : Nat} (h : RC M D) (hp : kSl D s 5 ≠ 1 → gI M 17 s = nI (H 0 s 0)) (hq : kSl D s 5 = 1 → H 0 s 0 = qpS D s m) (hs : s < kNs D) (hm : m < kMi D) : f_X11_asked M 0 (nI s) (nI m) = some (nI (H 0 s 0)) := by
  have hR := h.1
  have hW := h.2.1
  have hn := hW.n
  have hMi := hW.mi
  have hsl := hW.2.2.2.2.2.1 s hs
  have hle := kTn_le D (kSl D s 0) m
  unfold f_X11_asked
  rw [oR, gd_t, h.of hs (j := 5) (by decide) (y := 5) rfl, bd_t]
  by_cases h5 : kSl D s 5 = 1
  · have hmul : kSl D s 6 * kTn D (kSl D s 0) m ≤ 20 * 61 := Nat.mul_le_mul hsl.2.2.2.2.2.2 (by omega)
    rw [if_pos (by rw [h5]; rfl), h.of hs (j := 4) (by decide) (y := 4) rfl, bd_t, h.of hs (j := 6) (by decide) (y := 6) rfl, bd_t, rr_24 hR, bd_t, h.of hs (j := 0) (by decide) (y := 0) rfl, bd_t, show (60 : Int32) * nI (kSl D s 0) + nI m = nI (60 * kSl D s 0 + m) by rw [show (60 : Int32) = nI 60 from rfl, pk_mul, nI_add], aB_t (60 * kSl D s 0 + m) zR_14 rfl (by omega) (by decide), gd_t, nx_t, nI_clamp (by omega), h.2.2.2 _ hsl.1 m hm, pk_mul, hq h5]
    unfold qpS
    rw [if_pos h5]
    have ht : (nI (kSl D s 4) - nI (kSl D s 6 * kTn D (kSl D s 0) m)).toInt = (kSl D s 4 : Int) - (kSl D s 6 * kTn D (kSl D s 0) m : Nat) := pk_sub_toInt (by omega) (by omega)
    by_cases hc : kSl D s 6 * kTn D (kSl D s 0) m ≤ kSl D s 4
    · rw [if_pos (Int32.le_iff_toInt_le.mpr (by rw [ht]; show (0 : Int) ≤ _; omega)), pk_sub hc]
    · rw [if_neg (fun z => by
        have := Int32.le_iff_toInt_le.mp z
        rw [ht] at this
        have e : (0 : Int32).toInt = 0 := rfl
        omega), show kSl D s 4 - kSl D s 6 * kTn D (kSl D s 0) m = 0 by omega]
      rfl
  · rw [if_neg (nI_neL (x := 1) 1 rfl h5 (by omega) (by decide)), rr_31 hR, bd_t, aB_t s zR_17 rfl (by omega) (by decide), gd_t, nI_clamp (by omega), hp h5]
theorem lackOfR_eq {M : Mem} {D : MK} {H : HS} {b : Nat} (hR : RR M) (hb : b < 6) (hw : kBy D b 3 ≤ 3) (hl : ∀ w, w < 3 → gI M 26 (3 * b + w) = nI (if w < kBy D b 3 then H 5 b w else 0)) : f_X11_lackOf M 0 (nI b) = some (nI (lkS H b (kBy D b 3))) := by
  have m3 : (3 : Int32) * nI b = nI (3 * b) := by rw [show (3 : Int32) = nI 3 from rfl, pk_mul]
  unfold f_X11_lackOf
  rw [oR, gd_t, rr_40 hR, bd_t, m3, aB_t (3 * b) zR_26 rfl (by omega) (by decide), gd_t, nI_1, aB_t (3 * b + 1) zR_26 rfl (by omega) (by decide), gd_t, nx_t, nx_t, show nI (3 * b) + 2 = nI (3 * b + 2) from nI_add _ _, aB_t (3 * b + 2) zR_26 rfl (by omega) (by decide), gd_t, nx_t, nI_clamp (by omega), nI_clamp (by omega), nI_clamp (by omega), show gI M 26 (3 * b) = _ from hl 0 (by decide), hl 1 (by decide), hl 2 (by decide), nI_add, nI_add]
  have hc : kBy D b 3 = 0 ∨ kBy D b 3 = 1 ∨ kBy D b 3 = 2 ∨ kBy D b 3 = 3 := by omega
  rcases hc with e | e | e | e <;> rw [e] <;> simp [lkS]
theorem wouldR_eq {M : Mem} {D : MK} {H : HS} {b asks limit m : Nat} (h : RC M D) (hb : b < kNb D) (hm : m < kMi D) (ha : asks ≤ limit) (hl : limit ≤ 99) (h13 : ∀ j, j < 60 → gI M 27 (60 * b + j) = nI (H 13 b j)) (hle : ∀ j, H 13 b j ≤ 1) : f_X11_would M 0 (nI b) (nI limit) (nI asks) (nI m) = some (if wdS D H b asks limit m then 1 else 0) := by
  have hR := h.1
  have hn := h.2.1.n
  have hMi := h.2.1.mi
  have hby := h.2.1.2.2.2.2.2.2 b hb
  have e97 : f_X11_would_97 M (nI limit) (nI asks) = some 1 := by
    unfold f_X11_would_97
    rw [if_neg (nI_nlt ha (by omega))]
  have m60 : (60 : Int32) * nI b + nI m = nI (60 * b + m) := by rw [show (60 : Int32) = nI 60 from rfl, pk_mul, nI_add]
  have e44 : kBy D b 2 ≠ 2 → f_X11_would_44 M 0 (nI b) (nI limit) (nI asks) (nI m) (nI (kBy D b 2)) = some 1 := fun h2 => by
    unfold f_X11_would_44
    rw [if_neg (nI_neL (x := 2) 2 rfl h2 (by omega) (by decide))]
    exact e97
  unfold f_X11_would wdS
  rw [oR, gd_t, rr_20 hR, bd_t, show (4 : Int32) * nI b + 2 = nI (4 * b + 2) by rw [show (4 : Int32) = nI 4 from rfl, pk_mul, show (2 : Int32) = nI 2 from rfl, nI_add], aB_t (4 * b + 2) zR_10 rfl (by omega) (by decide), gd_t, nx_t, nI_clamp (by omega), h.by hb (j := 2) (by decide)]
  by_cases h1 : kBy D b 2 = 1
  · rw [if_pos (by rw [h1]; rfl), if_pos h1, rr_17 hR, bd_t, aB_l (i := 1) zR_7 (by decide), gd_t, show gI M 7 ((1 : Int32).toNatClampNeg) = nI (kMi D) from h.2.2.1.1.2.1, show (2 : Int32) * nI m = nI (2 * m) by rw [show (2 : Int32) = nI 2 from rfl, pk_mul]]
    by_cases h2 : kMi D ≤ 2 * m
    · rw [if_pos (nI_le h2 (by omega)), e44 (by omega), if_pos (by simp [h2])]
    · rw [if_neg (nI_ge (by omega) (by omega)), show nI limit / (2 : Int32) = nI (limit / 2) by rw [show (2 : Int32) = nI 2 from rfl, pk_div (by omega) (by decide) (by decide)]]
      by_cases h4 : asks ≤ limit / 2
      · rw [if_neg (nI_nlt h4 (by omega)), if_pos (by simp [h4])]
      · rw [if_pos (nI_lt (by omega) (by omega)), if_neg (by simp [h2, h4])]
  rw [if_neg (nI_neL (x := 1) 1 rfl h1 (by omega) (by decide)), if_neg h1]
  by_cases h2 : kBy D b 2 = 2
  · rw [if_pos h2]
    have e72 : f_X11_would_72 M 0 (nI b) (nI limit) (nI asks) (nI m) = some (if 1 < m ∧ H 13 b (m - 2) = 1 then 0 else 1) := by
      unfold f_X11_would_72
      by_cases c : m ≤ 1
      · rw [if_pos (show nI m ≤ 1 from nI_le (b := 1) c (by decide)), e97, if_neg (by omega)]
      · rw [if_neg (show ¬ nI m ≤ 1 from nI_ge (a := 1) (by omega) (by omega)), oR, gd_t, rr_41 hR, bd_t, m60, show nI (60 * b + m) - 2 = nI (60 * b + (m - 2)) by rw [show (2 : Int32) = nI 2 from rfl, pk_sub (by omega), show 60 * b + m - 2 = 60 * b + (m - 2) by omega], aB_t (60 * b + (m - 2)) zR_27 rfl (by omega) (by decide), gd_t, nx_t, nI_clamp (by omega), h13 (m - 2) (by omega)]
        have := hle (m - 2)
        by_cases c2 : H 13 b (m - 2) = 1
        · rw [if_neg (nI_ne0 (by omega) (by omega)), if_pos ⟨by omega, c2⟩]
        · rw [if_pos (show nI (H 13 b (m - 2)) = 0 by rw [show H 13 b (m - 2) = 0 by omega]; rfl), e97, if_neg (fun z => c2 z.2)]
    unfold f_X11_would_44
    rw [if_pos (by rw [h2]; rfl)]
    by_cases c : m = 0
    · subst c
      rw [if_pos (by decide), e72]
      simp
    · rw [if_neg (nI_nle (n := m) (by omega) (by omega)), oR, gd_t, rr_41 hR, bd_t, m60, show nI (60 * b + m) - 1 = nI (60 * b + (m - 1)) by rw [show (1 : Int32) = nI 1 from rfl, pk_sub (by omega), show 60 * b + m - 1 = 60 * b + (m - 1) by omega], aB_t (60 * b + (m - 1)) zR_27 rfl (by omega) (by decide), gd_t, nx_t, nI_clamp (by omega), h13 (m - 1) (by omega)]
      have := hle (m - 1)
      by_cases c2 : H 13 b (m - 1) = 1
      · rw [if_neg (nI_ne0 (by omega) (by omega)), if_neg]
        simp [c2]
        intro z
        omega
      · rw [if_pos (show nI (H 13 b (m - 1)) = 0 by rw [show H 13 b (m - 1) = 0 by omega]; rfl), e72]
        have z0 : H 13 b (m - 1) = 0 := by omega
        by_cases c3 : 1 < m ∧ H 13 b (m - 2) = 1
        · rw [if_pos c3, if_neg]
          simp [c3]
        · rw [if_neg c3, if_pos]
          simp [z0]
          by_cases q : 1 < m
          · right
            exact fun c4 => c3 ⟨q, c4⟩
          · left
            omega
  · rw [if_neg h2, e44 h2]
    rfl
