/-! A SALE, class side -/
theorem vpn1 : vp_nar .boolean 1 = 1 := rfl
theorem vpn0 : vp_nar .boolean 0 = 0 := rfl
def sl5 (M : Mem) (n m s i : Nat) (p : Int32) : Mem := sI (sI (sI (sI (sI M 124 n (nI m)) 125 n (nI s)) 126 n (nI i)) 127 n p) 84 4 (nI (n + 1))
theorem sell54_eq {M : Mem} {n m s i : Nat} (hCR : CR M) (hn : n < 160) (hs : s < 8) (h4 : gI M 84 4 = nI n) : f_X3_sell_54 M 84 (nI s) (nI i) (nI m) = some (sl5 M n m s i (gI M 129 s)) := by
  unfold f_X3_sell_54
  have g1 : ∀ {t : Nat}, shC t = (100 + 0, 160) → aB shC t 0 (nI n) = true := fun h => aB_t n h rfl hn (by decide)
  rw [oC_84, gd_t, h4, if_neg (show ¬ (160 : Int32) ≤ nI n from nI_ge (b := 160) hn (by decide)), cr_84_5 hCR, bd_t, g1 zC_124, gd_t, nx_t, nI_clamp (by omega)]
  rw [cr_84_6 hCR.I, bd_t, show gI (sI M 124 n (nI m)) 84 4 = nI n by rw [gI_sI, if_neg (by omega)]; exact h4, g1 zC_125, gd_t, nx_t, nI_clamp (by omega)]
  rw [cr_84_7 hCR.I.I, bd_t, show gI (sI (sI M 124 n (nI m)) 125 n (nI s)) 84 4 = nI n by rw [gI_sI, if_neg (by omega), gI_sI, if_neg (by omega)]; exact h4, g1 zC_126, gd_t, nx_t, nI_clamp (by omega)]
  rw [cr_84_8 hCR.I.I.I, bd_t, cr_84_11 hCR.I.I.I, bd_t, aB_t s zC_129 rfl (by omega) (by decide), gd_t, show gI (sI (sI (sI M 124 n (nI m)) 125 n (nI s)) 126 n (nI i)) 84 4 = nI n by rw [gI_sI, if_neg (by omega), gI_sI, if_neg (by omega), gI_sI, if_neg (by omega)]; exact h4, g1 zC_127, gd_t, nx_t, nI_clamp (by omega), nI_clamp (by omega), nx_t]
  have e1 : gI (sI (sI (sI M 124 n (nI m)) 125 n (nI s)) 126 n (nI i)) 129 s = gI M 129 s := by rw [gI_sI, if_neg (by omega), gI_sI, if_neg (by omega), gI_sI, if_neg (by omega)]
  have e2 : ∀ p : Int32, gI (sI (sI (sI (sI M 124 n (nI m)) 125 n (nI s)) 126 n (nI i)) 127 n p) 84 4 = nI n := fun p => by rw [gI_sI, if_neg (by omega), gI_sI, if_neg (by omega), gI_sI, if_neg (by omega), gI_sI, if_neg (by omega)]; exact h4
  rw [e1, e2, nI_1]
  rfl
theorem sl5_only {M : Mem} {n m s i : Nat} {p : Int32} : Only inM M (sl5 M n m s i p) :=
  ((((Only.rf.I (by unfold inM; omega)).I (by unfold inM; omega)).I (by unfold inM; omega)).I (by unfold inM; omega)).I (by unfold inM; omega)
theorem sl5_g {M : Mem} {n m s i : Nat} {p : Int32} (a k : Nat) (h : ¬ (a = 84 ∨ a = 124 ∨ a = 125 ∨ a = 126 ∨ a = 127)) : gI (sl5 M n m s i p) a k = gI M a k := by
  unfold sl5
  rw [gI_sI, if_neg (by omega), gI_sI, if_neg (by omega), gI_sI, if_neg (by omega), gI_sI, if_neg (by omega), gI_sI, if_neg (by omega)]
def sl4 (M : Mem) (m s i : Nat) (u v : Int32) : Mem := sI (sI (sI (sI M 130 s u) 133 i v) 131 s 1) 141 i (nI m)
theorem sl4_eq {M : Mem} {m s i : Nat} {u v : Int32} : sI (sI (sI (sI M 130 s u) 133 i v) 131 s 1) 141 i (nI m) = sl4 M m s i u v := rfl
theorem sl4_only {M : Mem} {m s i : Nat} {u v : Int32} : Only inM M (sl4 M m s i u v) :=
  (((Only.rf.I (by unfold inM; omega)).I (by unfold inM; omega)).I (by unfold inM; omega)).I (by unfold inM; omega)
theorem sell_eq {M : Mem} {b s i m w : Nat} {D : MK} {H : HS} (hH : HC M b D) (hc : CH M D (slL H i w)) (hv : IvH D m H) (hs : s < kNs D) (hi : i < kNb D) (hm : m < kMi D) (hw : w < kBy D i 3) (h0 : 0 < H 1 s 0) (hp : H 0 s 0 ≤ H 4 i 0) : ∃ M', f_X3_sell M 84 (nI s) (nI i) (nI m) = some M' ∧ Only inM M M' ∧ CH M' D (slS D H m s i w) := by
  have hn := hH.2.2.2.1.n
  have hCR := hH.2.1
  have hMi := hH.2.2.2.1.mi
  have hs8 : s < 8 := by omega
  have hi6 : i < 6 := by omega
  have hvs := hv.1 s hs
  have hvb := hv.2.1 i hi
  have h160 := hv.lt hH.2.2.2.1 hs h0
  have hby := hH.2.2.2.1.2.2.2.2.2.2 i hi
  have c1 := hc.2.1 s hs
  have c2 := hc.2.2.1 i hi
  have q1 : gI M 130 s = nI (H 1 s 0) := by have := c1.2.1; simpa [slL] using this
  have q0 : gI M 129 s = nI (H 0 s 0) := by have := c1.1; simpa [slL] using this
  have q4 : gI M 133 i = nI (H 4 i 0) := by have := c2.1; simpa [slL] using this
  have q8 : gI M 84 4 = nI (H 8 0 0) := by have := hc.1; simpa [slL] using this
  unfold f_X3_sell
  rw [oC_84, gd_t, cr_84_12 hCR, bd_t, aB_t s zC_130 rfl (by omega) (by decide), gd_t, nx_t, nI_clamp (by omega), q1, show nI (H 1 s 0) - 1 = nI (H 1 s 0 - 1) by rw [show (1 : Int32) = nI 1 from rfl, pk_sub (by omega)]]
  rw [cr_84_15 hCR.I, bd_t, aB_t i zC_133 rfl (by omega) (by decide), gd_t, cr_84_11 hCR.I, bd_t, aB_t s zC_129 rfl (by omega) (by decide), gd_t, nx_t, nx_t, nI_clamp (by omega), gI_sI, if_neg (by omega), gI_sI, if_neg (by omega), q4, q0, pk_sub hp]
  rw [cr_84_13 hCR.I.I, bd_t, aB_t s zC_131 rfl (by omega) (by decide), gd_t, nx_t, vpn1, cr_84_17 hCR.I.I.I, bd_t, aB_t i zC_141 rfl (by omega) (by decide), gd_t, nx_t]
  rw [sl4_eq]
  have hO4 : Only inM M (sl4 M m s i (nI (H 1 s 0 - 1)) (nI (H 4 i 0 - H 0 s 0))) := sl4_only
  have hH4 := hH.only (hO4.mono (fun _ => inM_H))
  have g4 : ∀ a k, ¬ ((a = 130 ∧ k = s) ∨ (a = 133 ∧ k = i) ∨ (a = 131 ∧ k = s) ∨ (a = 141 ∧ k = i)) → gI (sl4 M m s i (nI (H 1 s 0 - 1)) (nI (H 4 i 0 - H 0 s 0))) a k = gI M a k := fun a k h => by
    unfold sl4
    rw [gI_sI, if_neg (by omega), gI_sI, if_neg (by omega), gI_sI, if_neg (by omega), gI_sI, if_neg (by omega)]
  have e130 : gI (sl4 M m s i (nI (H 1 s 0 - 1)) (nI (H 4 i 0 - H 0 s 0))) 130 s = nI (H 1 s 0 - 1) := by
    unfold sl4
    rw [gI_sI, if_neg (by omega), gI_sI, if_neg (by omega), gI_sI, if_neg (by omega), gI_sI, if_pos ⟨rfl, rfl⟩]
  have e133 : gI (sl4 M m s i (nI (H 1 s 0 - 1)) (nI (H 4 i 0 - H 0 s 0))) 133 i = nI (H 4 i 0 - H 0 s 0) := by
    unfold sl4
    rw [gI_sI, if_neg (by omega), gI_sI, if_neg (by omega), gI_sI, if_pos ⟨rfl, rfl⟩]
  have e131 : gI (sl4 M m s i (nI (H 1 s 0 - 1)) (nI (H 4 i 0 - H 0 s 0))) 131 s = 1 := by
    unfold sl4
    rw [gI_sI, if_neg (by omega), gI_sI, if_pos ⟨rfl, rfl⟩]
  have e141 : gI (sl4 M m s i (nI (H 1 s 0 - 1)) (nI (H 4 i 0 - H 0 s 0))) 141 i = nI m := by
    unfold sl4
    rw [gI_sI, if_pos ⟨rfl, rfl⟩]
  generalize sl4 M m s i (nI (H 1 s 0 - 1)) (nI (H 4 i 0 - H 0 s 0)) = M4 at *
  rw [lackOf_eq (H := slL H i w) hH4 hi (fun v hv => by rw [g4 _ _ (by omega)]; exact c2.2.1 v hv), bd_t]
  have hlk : lkS (slL H i w) i (kBy D i 3) ≤ 27 := by
    have := lkS_le (H := slL H i w) (b := i) (fun v hv => by
      unfold slL
      have h1 := hvb.2 v hv
      split
      · rename_i z
        obtain ⟨-, -, rfl⟩ := z
        omega
      · exact h1) (kBy D i 3) (by omega)
    omega
  -- the end, from a memory that has the minute of being done
  have fin : ∀ M5 : Mem, CR M5 → (∀ a k, ¬ (a = 128 ∧ k = i) → gI M5 a k = gI M4 a k) → M5.2 = M4.2 → gI M5 128 i = (if slS D H m s i w 7 i 0 = 0 then -1 else nI (slS D H m s i w 7 i 0 - 1)) → ∃ M', f_X3_sell_54 M5 84 (nI s) (nI i) (nI m) = some M' ∧ Only inM M M' ∧ CH M' D (slS D H m s i w) := by
    intro M5 hC5 g5 g52 e128
    have k4 : ∀ k, gI M5 84 k = gI M 84 k := fun k => by rw [g5 _ _ (by omega), g4 _ _ (by omega)]
    refine ⟨_, sell54_eq hC5 h160 hs8 (by rw [k4]; exact q8), (Only.tr ⟨by rw [g52]; exact hO4.1, fun a ha k => ?_⟩ sl5_only), ?_⟩
    · unfold inM at ha
      rw [g5 _ _ (by omega)]
      exact hO4.2 a (by unfold inM; omega) k
    have k129 : gI M5 129 s = nI (H 0 s 0) := by rw [g5 _ _ (by omega), g4 _ _ (by omega)]; exact q0
    rw [k129]
    refine ⟨?_, fun x hx => ⟨?_, ?_, ?_, ?_⟩, fun x hx => ⟨?_, fun v hv' => ?_, ?_, ?_⟩, fun j hj => ?_⟩
    · have : slS D H m s i w 8 0 0 = H 8 0 0 + 1 := by simp [slS]
      rw [this]
      unfold sl5
      rw [gI_sI, if_pos ⟨rfl, rfl⟩]
    · have : slS D H m s i w 0 x 0 = H 0 x 0 := by simp [slS]
      rw [this, sl5_g _ _ (by omega), g5 _ _ (by omega), g4 _ _ (by omega)]
      have := (hc.2.1 x hx).1
      simpa [slL] using this
    · rw [sl5_g _ _ (by omega), g5 _ _ (by omega)]
      by_cases e : x = s
      · subst e
        rw [e130]
        simp [slS]
      · rw [g4 _ _ (by omega)]
        have := (hc.2.1 x hx).2.1
        simpa [slL, slS, e] using this
    · rw [sl5_g _ _ (by omega), g5 _ _ (by omega)]
      by_cases e : x = s
      · subst e
        rw [e131]
        simp [slS]
        rfl
      · rw [g4 _ _ (by omega)]
        have := (hc.2.1 x hx).2.2.1
        simpa [slL, slS, e] using this
    · rw [sl5_g _ _ (by omega), g5 _ _ (by omega), g4 _ _ (by omega)]
      have := (hc.2.1 x hx).2.2.2
      simpa [slL, slS] using this
    · rw [sl5_g _ _ (by omega), g5 _ _ (by omega)]
      by_cases e : x = i
      · subst e
        rw [e133]
        simp [slS]
      · rw [g4 _ _ (by omega)]
        have := (hc.2.2.1 x hx).1
        simpa [slL, slS, e] using this
    · rw [sl5_g _ _ (by omega), g5 _ _ (by omega), g4 _ _ (by omega)]
      have := (hc.2.2.1 x hx).2.1 v hv'
      rw [this]
      by_cases e : x = i ∧ v = w
      · simp [slL, slS, e]
      · simp [slL, slS, e]
    · rw [sl5_g _ _ (by omega), g5 _ _ (by omega)]
      by_cases e : x = i
      · subst e
        rw [e141]
        simp [slS]
      · rw [g4 _ _ (by omega)]
        have := (hc.2.2.1 x hx).2.2.1
        simpa [slL, slS, e] using this
    · rw [sl5_g _ _ (by omega)]
      by_cases e : x = i
      · subst e
        exact e128
      · rw [g5 _ _ (by omega), g4 _ _ (by omega)]
        have := (hc.2.2.1 x hx).2.2.2
        simpa [slL, slS, e] using this
    · have e8 : slS D H m s i w 8 0 0 = H 8 0 0 + 1 := by simp [slS]
      rw [e8] at hj
      have gg : ∀ a, (a = 124 ∨ a = 125 ∨ a = 126 ∨ a = 127) → gI M5 a j = gI M a j := fun a ha => by rw [g5 _ _ (by omega), g4 _ _ (by omega)]
      by_cases e : j = H 8 0 0
      · subst e
        unfold sl5
        refine ⟨?_, ?_, ?_, ?_⟩
        · rw [gI_sI, if_neg (by omega), gI_sI, if_neg (by omega), gI_sI, if_neg (by omega), gI_sI, if_neg (by omega), gI_sI, if_pos ⟨rfl, rfl⟩]; simp [slS]
        · rw [gI_sI, if_neg (by omega), gI_sI, if_neg (by omega), gI_sI, if_neg (by omega), gI_sI, if_pos ⟨rfl, rfl⟩]; simp [slS]
        · rw [gI_sI, if_neg (by omega), gI_sI, if_neg (by omega), gI_sI, if_pos ⟨rfl, rfl⟩]; simp [slS]
        · rw [gI_sI, if_neg (by omega), gI_sI, if_pos ⟨rfl, rfl⟩]; simp [slS]
      · have hj' := hc.2.2.2 j (by simp [slL]; omega)
        have s9 : ∀ y, slS D H m s i w 9 j y = slL H i w 9 j y := fun y => by simp [slS, slL, e]
        simp only [s9]
        have k : ∀ a, (a = 124 ∨ a = 125 ∨ a = 126 ∨ a = 127) → gI (sl5 M5 (H 8 0 0) m s i (nI (H 0 s 0))) a j = gI M a j := fun a ha => by
          unfold sl5
          rw [gI_sI, if_neg (by omega), gI_sI, if_neg (by omega), gI_sI, if_neg (by omega), gI_sI, if_neg (by omega), gI_sI, if_neg (by omega)]
          exact gg a ha
        rw [k 124 (by omega), k 125 (by omega), k 126 (by omega), k 127 (by omega)]
        exact hj'
  by_cases hz : lkS (slL H i w) i (kBy D i 3) = 0
  · rw [if_pos (by rw [hz]; rfl), cr_84_9 hH4.2.1, bd_t, aB_t i zC_128 rfl (by omega) (by decide), gd_t, nx_t]
    refine fin _ hH4.2.1.I (fun a k h => by rw [gI_sI, if_neg h]) rfl ?_
    have : slS D H m s i w 7 i 0 = m + 1 := by simp [slS, hz]
    rw [gI_sI, if_pos ⟨rfl, rfl⟩, this, if_neg (by omega), Nat.add_sub_cancel]
  · rw [if_neg (nI_ne0 (by omega) (by omega))]
    refine fin _ hH4.2.1 (fun a k h => rfl) rfl ?_
    have : slS D H m s i w 7 i 0 = H 7 i 0 := by simp [slS, hz]
    rw [this, g4 _ _ (by omega)]
    have := c2.2.2.2
    simpa [slL] using this
