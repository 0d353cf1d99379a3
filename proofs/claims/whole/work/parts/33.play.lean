/-! AN HOUR, class side -/
def IvB (D : MK) (m : Nat) (H : HS) : Prop := (∀ s, s < kNs D → H 0 s 0 ≤ 99 ∧ H 1 s 0 ≤ 20) ∧ (∀ b, b < kNb D → H 4 b 0 ≤ 999 ∧ ∀ w, w < 3 → H 5 b w ≤ 9) ∧ H 8 0 0 + stS H (kNs D) = pcS D (kNs D) ∧
  (∀ b, b < kNb D → H 6 b 0 ≤ m ∧ H 7 b 0 ≤ m + 1 ∧ (∀ j, H 13 b j ≤ 1) ∧ (∀ j, H 6 b 0 ≤ j → H 13 b j = 0) ∧ (0 < H 6 b 0 → H 13 b (H 6 b 0 - 1) = 1))
theorem qpS_le {D : MK} (hW : WFD D) {s : Nat} (hs : s < kNs D) (m : Nat) : qpS D s m ≤ 99 := by
  have := (hW.2.2.2.2.2.1 s hs).2.2.2.2.1
  unfold qpS
  split <;> omega
theorem iv_op {D : MK} {m : Nat} {H : HS} (hW : WFD D) (h : IvB D m H) : IvH D m (opS D m H) := by
  obtain ⟨a, b, c, d⟩ := h
  refine ⟨fun s hs => ?_, fun i hi => ?_, ?_, fun i hi => ?_⟩
  · have := a s hs
    have hq := qpS_le hW hs m
    have e1 : opS D m H 1 s 0 = H 1 s 0 := by simp [opS]
    have e2 : opS D m H 2 s 0 = 0 := by simp [opS, hs]
    have e3 : opS D m H 3 s 0 = 0 := by simp [opS, hs]
    rw [e1, e2, e3]
    refine ⟨?_, this.2, by omega, by omega⟩
    by_cases e : kSl D s 5 = 1
    · have : opS D m H 0 s 0 = qpS D s m := by simp [opS, hs, e]
      omega
    · have : opS D m H 0 s 0 = H 0 s 0 := by simp [opS, e]
      omega
  · have e4 : opS D m H 4 i 0 = H 4 i 0 := by simp [opS]
    have e5 : ∀ w, opS D m H 5 i w = H 5 i w := fun w => by simp [opS]
    simp only [e4, e5]
    exact b i hi
  · have e8 : opS D m H 8 0 0 = H 8 0 0 := by simp [opS]
    rw [e8, stS_cong (H := H) _ (fun s hs => by simp [opS])]
    exact c
  · have e6 : opS D m H 6 i 0 = H 6 i 0 := by simp [opS]
    have e7 : opS D m H 7 i 0 = H 7 i 0 := by simp [opS]
    have e13 : ∀ j, opS D m H 13 i j = H 13 i j := fun j => by simp [opS]
    simp only [e6, e7, e13]
    have := d i hi
    exact ⟨by omega, this.2.1, this.2.2.1, this.2.2.2.1, this.2.2.2.2, fun _ z => by omega⟩
theorem iv_cl {D : MK} {m : Nat} {H : HS} (h : IvH D m H) : IvB D (m + 1) (clS D m H) := by
  obtain ⟨a, b, c, d⟩ := h
  refine ⟨fun s hs => ?_, fun i hi => ?_, ?_, fun i hi => ?_⟩
  · have := a s hs
    have e1 : clS D m H 1 s 0 = H 1 s 0 := by simp [clS]
    rw [e1]
    refine ⟨?_, this.2.1⟩
    by_cases e : kSl D s 5 = 2
    · have e0 : clS D m H 0 s 0 = (if H 2 s 0 = 1 then min 99 (H 0 s 0 + kSl D s 6) else if H 3 s 0 = 1 then H 0 s 0 - kSl D s 6 else H 0 s 0) := by simp [clS, hs, e]
      rw [e0]
      split
      · omega
      · split <;> omega
    · have : clS D m H 0 s 0 = H 0 s 0 := by simp [clS, e]
      omega
  · have e4 : clS D m H 4 i 0 = H 4 i 0 := by simp [clS]
    have e5 : ∀ w, clS D m H 5 i w = H 5 i w := fun w => by simp [clS]
    simp only [e4, e5]
    exact b i hi
  · have e8 : clS D m H 8 0 0 = H 8 0 0 := by simp [clS]
    rw [e8, stS_cong (H := H) _ (fun s hs => by simp [clS])]
    exact c
  · have e6 : clS D m H 6 i 0 = H 6 i 0 := by simp [clS]
    have e7 : clS D m H 7 i 0 = H 7 i 0 := by simp [clS]
    have e13 : ∀ j, clS D m H 13 i j = H 13 i j := fun j => by simp [clS]
    simp only [e6, e7, e13]
    have := d i hi
    exact ⟨this.1, by omega, this.2.2.1, this.2.2.2.1, this.2.2.2.2.1⟩
theorem stS_bg (D : MK) : ∀ n, stS (bgS D) n = pcS D n
  | 0 => rfl
  | n + 1 => by
    unfold stS pcS
    rw [stS_bg D n]
    simp [bgS]
theorem iv_bg {D : MK} (hW : WFD D) : IvB D 0 (bgS D) := by
  refine ⟨fun s hs => ?_, fun i hi => ⟨?_, fun w hw => ?_⟩, ?_, fun i hi => ?_⟩
  · have := hW.2.2.2.2.2.1 s hs
    simp [bgS]
    omega
  · have := hW.2.2.2.2.2.2 i hi
    simp [bgS]
    omega
  · have := hW.2.2.2.2.2.2 i hi
    simp only [bgS]
    simp
    split
    · rename_i h
      exact (this.2.2.2.2.1 w h).2.2.1
    · omega
  · rw [stS_bg]
    simp [bgS]
  · simp only [bgS]
    simp
    split <;> omega
theorem iv_hr {D : MK} (hW : WFD D) : ∀ m, IvB D m (hrS D m)
  | 0 => iv_bg hW
  | m + 1 => iv_cl (iv_trP (iv_op hW (iv_hr hW m)) hW _)
theorem gI_cpI (M : Mem) (s sp d dp n b j : Nat) : gI (cpI M s sp d dp n) b j = if b = d ∧ dp ≤ j ∧ j < dp + n then gI M s (sp + (j - dp)) else gI M b j := rfl
theorem Only.cI {S : Nat → Prop} {M M' : Mem} {s sp d dp n : Nat} (h : Only S M M') (hd : S d) : Only S M (cpI M' s sp d dp n) := ⟨h.1, fun b hb j => by
  rw [gI_cpI, if_neg (fun z => hb (by rw [z.1]; exact hd))]
  exact h.2 b hb j⟩
theorem begin2_loop {M : Mem} {b : Nat} {D : MK} (hH : HC M b D) :
    ∀ n x M', x ≤ kNb D → kNb D < n + x → Only (fun a => a = 84 ∨ a = 128 ∨ (133 ≤ a ∧ a ≤ 141)) M M' → (∀ k, gI M' 84 k = gI M 84 k) → (∀ y, y < x → gI M' 133 y = nI (bgS D 4 y 0) ∧ (∀ w, w < kBy D y 3 → gI M' (135 + y) w = nI (bgS D 5 y w)) ∧ gI M' 141 y = -3 ∧ gI M' 128 y = (if bgS D 7 y 0 = 0 then -1 else nI (bgS D 7 y 0 - 1))) → ∃ M'', f_X3_begin_62 n M' 84 (nI x) = some M'' ∧ Only (fun a => a = 84 ∨ a = 128 ∨ (133 ≤ a ∧ a ≤ 141)) M M'' ∧ (∀ k, gI M'' 84 k = gI M 84 k) ∧ (∀ y, y < kNb D → gI M'' 133 y = nI (bgS D 4 y 0) ∧ (∀ w, w < kBy D y 3 → gI M'' (135 + y) w = nI (bgS D 5 y w)) ∧ gI M'' 141 y = -3 ∧ gI M'' 128 y = (if bgS D 7 y 0 = 0 then -1 else nI (bgS D 7 y 0 - 1))) := by
  have hn := hH.2.2.2.1.n
  intro n
  induction n with
  | zero => intro s M' h1 h2; omega
  | succ n ih =>
    intro x M' h1 h2 hO h84 hi
    show ∃ M'', s_X3_begin_62 (f_X3_begin_62 n) M' 84 (nI x) = some M'' ∧ _
    unfold s_X3_begin_62
    have hH' := hH.only (hO.mono (fun a z => by unfold inH; omega))
    have hCR := hH'.2.1
    have hms := mb_sh b hH.1
    rw [oC_84, gd_t, hH'.2.2.1, bd_t, hms.1, gd_t, hH'.2.2.2.2.1.1.2.2.2.2.2]
    by_cases hk : x = kNb D
    · subst hk
      rw [if_pos (nI_le (Nat.le_refl _) (by omega))]
      exact ⟨M', rfl, hO, h84, hi⟩
    have hx6 : x < 6 := by omega
    have hmb := hms.2.2.2.2.2.2 x hx6
    have hby := hH.2.2.2.1.2.2.2.2.2.2 x (by omega)
    have hcb := hH'.2.2.2.2.1.2.2.2 x (by omega)
    have hout := fun a h1 h2 => mb_out hH.1 (a := a) h1 h2
    have h128 := hout 128 (by omega) (by omega)
    have h133 := hout 133 (by omega) (by omega)
    have h141 := hout 141 (by omega) (by omega)
    have h135 := hout (135 + x) (by omega) (by omega)
    rw [if_neg (nI_ge (by omega) (by omega)), mk_8 hCR hH.1, bd_t, aB_t x hms.2.2.2.1 rfl (by omega) (by decide), gd_t, nI_clamp (n := x) (by omega), mk_b hCR hH.1 hx6, bd_t, cr_84_15 hCR, bd_t, hmb.1, gd_t, aB_t x zC_133 rfl (by omega) (by decide), gd_t, nx_t, hcb.1 1 (by decide)]
    rw [mk_b5 hCR.I hH.1 hx6, bd_t, cr_84_16 hCR.I, bd_t, aB_t x zC_134 rfl (by omega) (by decide), gd_t, cr_l hCR.I hx6, bd_t, gI_sI, if_neg (by omega), hcb.1 3 (by decide)]
    have hcB : cB shC 0 (b + 17 + 4 * x) 0 (135 + x) 0 (nI (kBy D x 3)) = true := by
      unfold cB
      rw [hmb.2.2.1, (zC_l x hx6).1, nI_clamp (by omega)]
      have q1 : ¬ nI (kBy D x 3) < 0 := nI_pos (by omega)
      have q2 : (0 : Int32).toNatClampNeg = 0 := rfl
      simp [q1, q2]
      omega
    rw [hcB, gd_t, nx_t, nI_clamp (n := kBy D x 3) (by omega), show (0 : Int32).toNatClampNeg = 0 from rfl]
    have e3 : gI (sI (cpI (sI M' 133 x (nI (kBy D x 1))) (b + 17 + 4 * x) 0 (135 + x) 0 (kBy D x 3)) 141 x (-3)) (b + 15 + 4 * x) 3 = nI (kBy D x 3) := by rw [gI_sI, if_neg (by omega), gI_cpI, if_neg (by omega), gI_sI, if_neg (by omega), hcb.1 3 (by decide)]
    rw [cr_84_17 hCR.I.cI, bd_t, aB_t x zC_141 rfl (by omega) (by decide), gd_t, nx_t, cr_84_9 hCR.I.cI.I, bd_t, e3, aB_t x zC_128 rfl (by omega) (by decide), gd_t, gd_t, nx_t, nx_t, nI_1]
    -- both ends at once
    have fin : ∀ v : Int32, v = (if bgS D 7 x 0 = 0 then -1 else nI (bgS D 7 x 0 - 1)) → ∃ M'', f_X3_begin_62 n (sI (sI (cpI (sI M' 133 x (nI (kBy D x 1))) (b + 17 + 4 * x) 0 (135 + x) 0 (kBy D x 3)) 141 x (-3)) 128 x v) 84 (nI (x + 1)) = some M'' ∧ Only (fun a => a = 84 ∨ a = 128 ∨ (133 ≤ a ∧ a ≤ 141)) M M'' ∧ (∀ k, gI M'' 84 k = gI M 84 k) ∧ (∀ y, y < kNb D → gI M'' 133 y = nI (bgS D 4 y 0) ∧ (∀ w, w < kBy D y 3 → gI M'' (135 + y) w = nI (bgS D 5 y w)) ∧ gI M'' 141 y = -3 ∧ gI M'' 128 y = (if bgS D 7 y 0 = 0 then -1 else nI (bgS D 7 y 0 - 1))) := by
      intro v hv
      refine ih (x + 1) _ (by omega) (by omega) ((((hO.I (by omega)).cI (by omega)).I (by omega)).I (by omega)) (fun k => ?_) (fun y hy => ?_)
      · rw [gI_sI, if_neg (by omega), gI_sI, if_neg (by omega), gI_cpI, if_neg (by omega), gI_sI, if_neg (by omega)]
        exact h84 k
      · by_cases e : y = x
        · subst e
          refine ⟨?_, fun w hw => ?_, ?_, ?_⟩
          · rw [gI_sI, if_neg (by omega), gI_sI, if_neg (by omega), gI_cpI, if_neg (by omega), gI_sI, if_pos ⟨rfl, rfl⟩]
            simp [bgS]
          · rw [gI_sI, if_neg (by omega), gI_sI, if_neg (by omega), gI_cpI, if_pos ⟨rfl, Nat.zero_le _, by omega⟩, gI_sI, if_neg (by omega), Nat.zero_add, Nat.sub_zero, (hcb.2 w hw).2.1]
            simp [bgS, hw]
          · rw [gI_sI, if_neg (by omega), gI_sI, if_pos ⟨rfl, rfl⟩]
          · rw [gI_sI, if_pos ⟨rfl, rfl⟩]
            exact hv
        · have := hi y (by omega)
          refine ⟨?_, fun w hw => ?_, ?_, ?_⟩
          · rw [gI_sI, if_neg (by omega), gI_sI, if_neg (by omega), gI_cpI, if_neg (by omega), gI_sI, if_neg (by omega)]
            exact this.1
          · rw [gI_sI, if_neg (by omega), gI_sI, if_neg (by omega), gI_cpI, if_neg (by omega), gI_sI, if_neg (by omega)]
            exact this.2.1 w hw
          · rw [gI_sI, if_neg (by omega), gI_sI, if_neg (by omega), gI_cpI, if_neg (by omega), gI_sI, if_neg (by omega)]
            exact this.2.2.1
          · rw [gI_sI, if_neg (by omega), gI_sI, if_neg (by omega), gI_cpI, if_neg (by omega), gI_sI, if_neg (by omega)]
            exact this.2.2.2
    by_cases h0 : kBy D x 3 = 0
    · rw [if_pos (by rw [h0]; rfl)]
      have := fin 0 (by simp [bgS, h0]; rfl)
      simpa only [h0] using this
    · rw [if_neg (nI_ne0 (by omega) (by omega))]
      exact fin (-1) (by simp [bgS, h0])
