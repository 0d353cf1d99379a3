/-! WHERE STALLS ARE, the reference -/
def TnR (M : Mem) (D : MK) : Prop := ∀ r, r < kNr D → ∀ m, m < kMi D → gI M 14 (60 * r + m) = nI (kTn D r m)
def RC (M : Mem) (D : MK) : Prop := RR M ∧ WFD D ∧ RM0 M 0 D ∧ TnR M D
theorem RC.st {M : Mem} {D : MK} (h : RC M D) {s j : Nat} (hs : s < kNs D) (hj : j < 7) : gI M 9 (7 * s + j) = nI (kSl D s j) := by
  have := h.2.2.1.2.2.1 s hs j hj
  simpa using this
theorem RC.by {M : Mem} {D : MK} (h : RC M D) {b j : Nat} (hb : b < kNb D) (hj : j < 4) : gI M 10 (4 * b + j) = nI (kBy D b j) := by
  have := (h.2.2.1.2.2.2 b hb).1 j hj
  simpa using this
theorem RC.wt {M : Mem} {D : MK} (h : RC M D) {b w j : Nat} (hb : b < kNb D) (hw : w < kBy D b 3) (hj : j < 3) : gI M 11 (9 * b + 3 * w + j) = nI (kWt D b w j) := by
  have := (h.2.2.1.2.2.2 b hb).2 w hw j hj
  simpa using this
theorem RC.of {M : Mem} {D : MK} (h : RC M D) {s j : Nat} (hs : s < kNs D) (hj : j < 7) {y : Int32} (hy : y = nI j) : f_X11_of M 0 (nI s) y = some (nI (kSl D s j)) := by
  have := h.2.1.n
  rw [of_eq h.1 (s := s) (j := j) (by omega) hj rfl hy, h.st hs hj]
theorem mul_pm {x : Int32} {n : Nat} (hn : n < 1000) (e : Nat) : ((if e = 1 then (1 : Int32) else -1) * nI n).toInt = if e = 1 then (n : Int) else -(n : Int) := by
  by_cases h : e = 1
  · rw [if_pos h, if_pos h, show (1 : Int32) = nI 1 from rfl, pk_mul, Nat.one_mul, nI_toInt (by omega)]
  · rw [if_neg h, if_neg h, Int32.toInt_mul, nI_toInt (by omega)]
    have : (-1 : Int32).toInt = -1 := by decide
    rw [this]
    have e : (-1 : Int) * (n : Int) = -(n : Int) := by omega
    rw [e]
    apply Int.bmod_eq_of_le <;> omega
theorem placeOf_eq {M : Mem} {D : MK} (h : RC M D) {s m : Nat} (hs : s < kNs D) (hm : m < kMi D) : f_X11_placeOf M 0 (nI s) (nI m) = some (nI (kPl D s m)) := by
  have hR := h.1
  have hW := h.2.1
  have hn := hW.n
  have hMi := hW.mi
  have hP := hW.p
  have hP0 := hW.p0 (Or.inl (by omega))
  have hsl := hW.2.2.2.2.2.1 s hs
  have hrg := h.2.2.1.2.1 _ hsl.1
  have hle := kTn_le D (kSl D s 0) m
  have hpl := kPl_lt hP0 s m
  unfold f_X11_placeOf
  rw [oR, gd_t, h.of hs (j := 0) (by decide) (y := 0) rfl, bd_t, h.of hs (j := 1) (by decide) (y := 1) rfl, bd_t, rr_18 hR, bd_t, show (2 : Int32) * nI (kSl D s 0) + 1 = nI (2 * kSl D s 0 + 1) by rw [show (2 : Int32) = nI 2 from rfl, pk_mul, nI_1], aB_t (2 * kSl D s 0 + 1) zR_8 rfl (by omega) (by decide), gd_t, nx_t, nI_clamp (by omega), rr_24 hR, bd_t, show (60 : Int32) * nI (kSl D s 0) + nI m = nI (60 * kSl D s 0 + m) by rw [show (60 : Int32) = nI 60 from rfl, pk_mul, nI_add], aB_t (60 * kSl D s 0 + m) zR_14 rfl (by omega) (by decide), gd_t, nx_t, nI_clamp (by omega), h.2.2.2 _ hsl.1 m hm, rr_17 hR, bd_t, aB_l (i := 0) zR_7 (by decide), gd_t, show gI M 7 ((0 : Int32).toNatClampNeg) = nI (kP D) from h.2.2.1.1.1]
  have he : gI M 8 (2 * kSl D s 0 + 1) = if kRg D (kSl D s 0) 1 = 1 then 1 else -1 := by
    have := hrg.2
    simpa using this
  have hn0 : ¬ nI (kP D) = 0 := nI_ne0 hP0 (by omega)
  rw [he, show (!(nI (kP D) == 0)) = true by simpa using hn0, gd_t, nx_t]
  have hw : ((if kRg D (kSl D s 0) 1 = 1 then (1 : Int32) else -1) * nI (kTn D (kSl D s 0) m)).toInt = if kRg D (kSl D s 0) 1 = 1 then (kTn D (kSl D s 0) m : Int) else -(kTn D (kSl D s 0) m : Int) := mul_pm (x := 0) (by omega) _
  generalize (if kRg D (kSl D s 0) 1 = 1 then (1 : Int32) else -1) * nI (kTn D (kSl D s 0) m) = w at hw ⊢
  have hwb : -1000 ≤ w.toInt ∧ w.toInt ≤ 1000 := by rw [hw]; split <;> omega
  have hx : (nI (kSl D s 1) + w).toInt = kWy D s m := by
    rw [add_small (by rw [nI_toInt (by omega)]; omega) (by omega), nI_toInt (by omega), hw]
    rfl
  have hPi : (nI (kP D)).toInt = (kP D : Int) := nI_toInt (by omega)
  have er : (nI (kSl D s 1) + w - (nI (kSl D s 1) + w) / nI (kP D) * nI (kP D)).toInt = (kWy D s m).tmod (kP D) := by rw [rem_toInt, hPi, hx]
  have hb := tmod_bounds (a := kWy D s m) (M := (kP D : Int)) (by omega)
  have em := emod_tmod (kWy D s m) (kP D) (by omega)
  by_cases hr : 0 ≤ (kWy D s m).tmod (kP D)
  · rw [if_pos hr] at em
    rw [if_pos (Int32.le_iff_toInt_le.mpr (by rw [er]; exact hr))]
    congr 1
    refine of_toInt ?_ (by omega)
    rw [er]
    unfold kPl
    omega
  · rw [if_neg hr] at em
    rw [if_neg (fun z => hr (by have := Int32.le_iff_toInt_le.mp z; rw [er] at this; exact this))]
    congr 1
    refine of_toInt ?_ (by omega)
    rw [add_small (by rw [er]; omega) (by rw [hPi]; omega), er, hPi]
    unfold kPl
    omega
theorem wantOfR_eq {M : Mem} {D : MK} (h : RC M D) {i g : Nat} (hi : i < kNb D) (hg : g < 100) : f_X11_wantOf M 0 (nI i) (nI g) = some (match kWo D i g with | none => -1 | some w => nI w) := by
  have hR := h.1
  have hn := h.2.1.n
  have hby := h.2.1.2.2.2.2.2.2 i hi
  have key : ∀ n k, k ≤ kBy D i 3 → kBy D i 3 < n + k → f_X11_wantOf_2 M n 0 (nI i) (nI g) (nI k) = some (match kWs D i g (kBy D i 3 - k) k with | none => -1 | some w => nI w) := by
    intro n
    induction n with
    | zero => intro k h1 h2; omega
    | succ n ih =>
      intro k h1 h2
      show s_X11_wantOf_2 M (f_X11_wantOf_2 M n) 0 (nI i) (nI g) (nI k) = _
      unfold s_X11_wantOf_2
      rw [oR, gd_t, rr_20 hR, bd_t, show (4 : Int32) * nI i + 3 = nI (4 * i + 3) by rw [show (4 : Int32) = nI 4 from rfl, pk_mul, show (3 : Int32) = nI 3 from rfl, nI_add], aB_t (4 * i + 3) zR_10 rfl (by omega) (by decide), gd_t, nx_t, nI_clamp (by omega), h.by hi (j := 3) (by decide)]
      by_cases hk : k = kBy D i 3
      · subst hk
        rw [if_pos (nI_le (Nat.le_refl _) (by omega)), Nat.sub_self]
        rfl
      rw [if_neg (nI_ge (by omega) (by omega)), rr_21 hR, bd_t, show (9 : Int32) * nI i + 3 * nI k = nI (9 * i + 3 * k) by rw [show (9 : Int32) = nI 9 from rfl, show (3 : Int32) = nI 3 from rfl, pk_mul, pk_mul, nI_add], aB_t (9 * i + 3 * k) zR_11 rfl (by omega) (by decide), gd_t, nx_t, nI_clamp (by omega), show gI M 11 (9 * i + 3 * k) = nI (kWt D i k 0) from h.wt hi (w := k) (j := 0) (by omega) (by decide)]
      have hw := hby.2.2.2.2.1 k (by omega)
      obtain ⟨d, hd⟩ : ∃ d, kBy D i 3 - k = d + 1 := ⟨kBy D i 3 - k - 1, by omega⟩
      rw [hd, kWs]
      by_cases e : kWt D i k 0 = g
      · rw [if_pos (by rw [e]), if_pos e]
      · rw [if_neg (fun z => e ((nI_eq (by omega) (by omega)).mp z)), if_neg e, nI_1, ih (k + 1) (by omega) (by omega), show kBy D i 3 - (k + 1) = d by omega]
  exact key FU 0 (by omega) (by unfold FU; omega)
