/-! ONE MEETING, class side -/
def CH (M : Mem) (D : MK) (H : HS) : Prop := gI M 84 4 = nI (H 8 0 0) ∧ (∀ s, s < kNs D → gI M 129 s = nI (H 0 s 0) ∧ gI M 130 s = nI (H 1 s 0) ∧ gI M 131 s = nI (H 2 s 0) ∧ gI M 132 s = nI (H 3 s 0)) ∧
  (∀ b, b < kNb D → gI M 133 b = nI (H 4 b 0) ∧ (∀ w, w < kBy D b 3 → gI M (135 + b) w = nI (H 5 b w)) ∧ gI M 141 b = (if H 6 b 0 = 0 then -3 else nI (H 6 b 0 - 1)) ∧ gI M 128 b = (if H 7 b 0 = 0 then -1 else nI (H 7 b 0 - 1))) ∧
  (∀ i, i < H 8 0 0 → gI M 124 i = nI (H 9 i 0) ∧ gI M 125 i = nI (H 9 i 1) ∧ gI M 126 i = nI (H 9 i 2) ∧ gI M 127 i = nI (H 9 i 3))
def inH (a : Nat) : Prop := a = 84 ∨ (99 ≤ a ∧ a ≤ 141)
def inM (a : Nat) : Prop := a = 84 ∨ (124 ≤ a ∧ a ≤ 141)
def HC (M : Mem) (b : Nat) (D : MK) : Prop := b ∈ MB ∧ CR M ∧ gR M 84 10 = some b ∧ WFD D ∧ CM M b D ∧ TnC M D ∧ ∀ s, s < kNs D → PlC M D s
theorem HC.only {M M' : Mem} {b : Nat} {D : MK} (h : HC M b D) (hO : Only inH M M') : HC M' b D := by
  obtain ⟨h1, h2, h3, h4, h5, h6, h7⟩ := h
  have hn := h4.n
  refine ⟨h1, hO.CR h2, by rw [hO.gR]; exact h3, h4, h5.only hn hO (fun a q1 q2 z => ?_), fun r hr m hm => ?_, fun s hs m hm => ?_⟩
  · have := mb_out h1 (a := a) (by unfold inH at z; omega) (by unfold inH at z; omega)
    omega
  · rw [hO.2 _ (by unfold inH; omega)]; exact h6 r hr m hm
  · rw [hO.2 _ (by unfold inH; omega)]; exact h7 s hs m hm
theorem inM_H {a : Nat} (h : inM a) : inH a := by unfold inM at h; unfold inH; omega
theorem wantOf_eq {M : Mem} {b i g : Nat} {D : MK} (hb : b ∈ MB) (hCR : CR M) (hW : WFD D) (hC : CM M b D) (hi : i < kNb D) (hg : g < 100) : f_X1_wantOf M (b + 15 + 4 * i) (nI g) = some (match kWo D i g with | none => -1 | some w => nI w) := by
  have hn := hW.n
  have hms := (mb_sh b hb).2.2.2.2.2.2 i (by omega)
  have hby := hW.2.2.2.2.2.2 i hi
  have hcb := hC.2.2.2 i hi
  have key : ∀ n k, k ≤ kBy D i 3 → kBy D i 3 < n + k → f_X1_wantOf_2 M n (b + 15 + 4 * i) (nI g) (nI k) = some (match kWs D i g (kBy D i 3 - k) k with | none => -1 | some w => nI w) := by
    intro n
    induction n with
    | zero => intro k h1 h2; omega
    | succ n ih =>
      intro k h1 h2
      show s_X1_wantOf_2 M (f_X1_wantOf_2 M n) (b + 15 + 4 * i) (nI g) (nI k) = _
      unfold s_X1_wantOf_2
      rw [hms.1, gd_t, hcb.1 3 (by decide)]
      by_cases hk : k = kBy D i 3
      · subst hk
        rw [if_pos (nI_le (Nat.le_refl _) (by omega)), Nat.sub_self]
        rfl
      rw [if_neg (nI_ge (by omega) (by omega)), mk_b4 hCR hb (by omega), bd_t, aB_t k hms.2.1 rfl (by omega) (by decide), gd_t, nI_clamp (by omega), (hcb.2 k (by omega)).1]
      have hw := hby.2.2.2.2.1 k (by omega)
      obtain ⟨d, hd⟩ : ∃ d, kBy D i 3 - k = d + 1 := ⟨kBy D i 3 - k - 1, by omega⟩
      rw [hd, kWs]
      by_cases e : kWt D i k 0 = g
      · rw [if_pos (by rw [e]), if_pos e]
      · rw [if_neg (fun z => e ((nI_eq (by omega) (by omega)).mp z)), if_neg e, nI_1, ih (k + 1) (by omega) (by omega), show kBy D i 3 - (k + 1) = d by omega]
  exact key FU 0 (by omega) (by unfold FU; omega)
theorem zC_l : ∀ b, b < 6 → shC (135 + b) = (100, 3) ∧ CRf 134 b = some (135 + b) ∧ mutB 134 b = false := by decide +kernel
theorem cr_l {M : Mem} (h : CR M) {b : Nat} (hb : b < 6) : gR M 134 b = some (135 + b) := (h _ _ (zC_l b hb).2.2).trans (zC_l b hb).2.1
theorem lkS_le {H : HS} {b : Nat} (h : ∀ w, w < 3 → H 5 b w ≤ 9) : ∀ n, n ≤ 3 → lkS H b n ≤ 9 * n
  | 0, _ => Nat.le_refl _
  | n + 1, hn => by
    have := lkS_le h n (by omega)
    have := h n (by omega)
    unfold lkS
    omega
theorem lackOf_eq {M : Mem} {b i : Nat} {D : MK} {H : HS} (hH : HC M b D) (hi : i < kNb D) (hL : ∀ w, w < kBy D i 3 → gI M (135 + i) w = nI (H 5 i w)) : f_X3_lackOf M 84 (nI i) = some (nI (lkS H i (kBy D i 3))) := by
  obtain ⟨hb, hCR, h3, hW, hC, -, -⟩ := hH
  have hn := hW.n
  have hms := mb_sh b hb
  have hmb := hms.2.2.2.2.2.2 i (by omega)
  have hby := hW.2.2.2.2.2.2 i hi
  have key : ∀ n k, k ≤ kBy D i 3 → kBy D i 3 < n + k → f_X3_lackOf_4 M n 84 (nI i) (nI (lkS H i k)) (nI k) = some (nI (lkS H i (kBy D i 3))) := by
    intro n
    induction n with
    | zero => intro k h1 h2; omega
    | succ n ih =>
      intro k h1 h2
      show s_X3_lackOf_4 M (f_X3_lackOf_4 M n) 84 (nI i) (nI (lkS H i k)) (nI k) = _
      unfold s_X3_lackOf_4
      rw [oC_84, gd_t, h3, bd_t, hms.1, gd_t, mk_8 hCR hb, bd_t, aB_t i hms.2.2.2.1 rfl (by omega) (by decide), gd_t, nI_clamp (by omega), mk_b hCR hb (by omega), bd_t, hmb.1, gd_t, (hC.2.2.2 i hi).1 3 (by decide)]
      by_cases hk : k = kBy D i 3
      · subst hk
        rw [if_pos (nI_le (Nat.le_refl _) (by omega))]
      rw [if_neg (nI_ge (by omega) (by omega)), cr_84_16 hCR, bd_t, aB_t i zC_134 rfl (by omega) (by decide), gd_t, cr_l hCR (by omega), bd_t, aB_t k (zC_l i (by omega)).1 rfl (by omega) (by decide), gd_t, nI_clamp (by omega), hL k (by omega), nI_add, nI_1]
      exact ih (k + 1) (by omega) (by omega)
  exact key FU 0 (by omega) (by unfold FU; omega)
theorem nI_neL {a : Nat} {x : Int32} (k : Nat) (hx : nI k = x) (h : ¬ a = k) (ha : a < 2 ^ 31) (hk : k < 2 ^ 31) : ¬ nI a = x := fun z => h ((nI_eq ha hk).mp (z.trans hx.symm))
theorem wouldBuy_eq {M : Mem} {b i m asks limit : Nat} {D : MK} {H : HS} (hH : HC M b D) (hc : CH M D H) (hv : IvH D m H) (hi : i < kNb D) (hm : m < kMi D) (ha : asks ≤ limit) (hl : limit ≤ 99) : f_X3_wouldBuy M 84 (nI i) (nI asks) (nI limit) (nI m) = some (if wdS D H i asks limit m then 1 else 0) := by
  obtain ⟨hb, hCR, h3, hW, hC, -, -⟩ := hH
  have hn := hW.n
  have hMi := hW.mi
  have hms := mb_sh b hb
  have hmb := hms.2.2.2.2.2.2 i (by omega)
  have hby := hW.2.2.2.2.2.2 i hi
  have hvb := hv.2.2.2 i hi
  unfold f_X3_wouldBuy
  rw [oC_84, gd_t, h3, bd_t, hms.1, gd_t, mk_8 hCR hb, bd_t, aB_t i hms.2.2.2.1 rfl (by omega) (by decide), gd_t, nI_clamp (by omega), mk_b hCR hb (by omega), bd_t, hmb.1, gd_t, (hC.2.2.2 i hi).1 2 (by decide), hC.1.2.1]
  unfold wdS
  by_cases h1 : kBy D i 2 = 1
  · rw [if_pos (by rw [h1]; rfl), if_pos h1, show (2 : Int32) * nI m = nI (2 * m) by rw [show (2 : Int32) = nI 2 from rfl, pk_mul], show nI limit / (2 : Int32) = nI (limit / 2) by rw [show (2 : Int32) = nI 2 from rfl, pk_div (by omega) (by decide) (by decide)]]
    by_cases h2 : kMi D ≤ 2 * m
    · rw [if_pos (nI_le h2 (by omega)), if_pos (by simp [h2])]
    · rw [if_neg (nI_ge (by omega) (by omega))]
      by_cases h4 : asks ≤ limit / 2
      · rw [if_neg (nI_nlt h4 (by omega)), if_pos (by simp [h4])]
      · rw [if_pos (nI_lt (by omega) (by omega)), if_neg (by simp [h2, h4])]
  rw [if_neg (nI_neL (x := 1) 1 rfl h1 (by omega) (by decide)), if_neg h1]
  by_cases h2 : kBy D i 2 = 2
  · rw [if_pos (by rw [h2]; rfl), if_pos h2, cr_84_17 hCR, bd_t, aB_t i zC_141 rfl (by omega) (by decide), gd_t, (hc.2.2.1 i hi).2.2.1]
    have hle := hvb.1
    have t2 : (nI m - 2).toInt = (m : Int) - 2 := by
      have := pk_sub_toInt (a := m) (b := 2) (by omega) (by decide)
      exact this
    have z1 := hvb.2.2.1 (m - 1)
    have z2 := hvb.2.2.1 (m - 2)
    by_cases e0 : H 6 i 0 = 0
    · have n1 := hvb.2.2.2.1 (m - 1) (by omega)
      have n2 := hvb.2.2.2.1 (m - 2) (by omega)
      rw [if_pos e0, if_neg (fun z => by
        have := congrArg Int32.toInt z
        rw [nI_toInt (by omega)] at this
        have e3 : (-3 : Int32).toInt = -3 := by decide
        omega), if_neg (fun z => by
        have := Int32.le_iff_toInt_le.mp z
        have e3 : (-3 : Int32).toInt = -3 := by decide
        omega), if_pos (by simp [n1, n2])]
    · rw [if_neg e0]
      by_cases e1 : H 6 i 0 = m + 1
      · have hs := hvb.2.2.2.2.2 h2 e1
        rw [if_pos (by rw [e1, Nat.add_sub_cancel]), if_pos]
        simp only [Bool.and_eq_true, Bool.not_eq_true', Bool.and_eq_false_iff, decide_eq_false_iff_not, beq_eq_false_iff_ne]
        refine ⟨?_, ?_⟩
        · by_cases q : 0 < m
          · right; rw [hs.1 q]; decide
          · left; exact q
        · by_cases q : 1 < m
          · right; rw [hs.2 q]; decide
          · left; exact q
      · have hl1 := hvb.2.2.2.2.1 (by omega)
        rw [if_neg (fun z => by
          have := (nI_eq (by omega) (by omega)).mp z
          omega)]
        by_cases e2 : m ≤ H 6 i 0 + 1
        · rw [if_pos (Int32.le_iff_toInt_le.mpr (by rw [t2, nI_toInt (by omega)]; omega)), if_neg]
          simp only [Bool.and_eq_true, Bool.not_eq_true', Bool.and_eq_false_iff, decide_eq_false_iff_not, beq_eq_false_iff_ne]
          intro z
          by_cases e3 : H 6 i 0 = m
          · rw [e3] at hl1
            rcases z.1 with q | q <;> omega
          · have : H 6 i 0 - 1 = m - 2 := by omega
            rw [this] at hl1
            rcases z.2 with q | q <;> omega
        · have n1 := hvb.2.2.2.1 (m - 1) (by omega)
          have n2 := hvb.2.2.2.1 (m - 2) (by omega)
          rw [if_neg (fun z => by
            have := Int32.le_iff_toInt_le.mp z
            rw [t2, nI_toInt (by omega)] at this
            omega), if_pos (by simp [n1, n2])]
  · rw [if_neg (nI_neL (x := 2) 2 rfl h2 (by omega) (by decide)), if_neg h2]
    rfl
