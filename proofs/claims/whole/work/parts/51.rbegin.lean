/-! AN HOUR BEGINS, the reference -/
theorem rb181 : ∀ n k M, k ≤ 360 → 360 < n + k → RR M → (∀ j, j < k → gI M 27 j = 0) → ∃ M', f_X11_begin_181 n M 0 (nI k) = some M' ∧ OnlyK (fun a j => a = 27 ∨ (a = 0 ∧ (j = 46 ∨ j = 47))) M M' ∧ (∀ j, j < 360 → gI M' 27 j = 0) ∧ gI M' 0 46 = 0 ∧ gI M' 0 47 = 0 := by
  intro n
  induction n with
  | zero => intro k M h1 h2; omega
  | succ n ih =>
    intro k M h1 h2 hR hz
    show ∃ M', s_X11_begin_181 (f_X11_begin_181 n) M 0 (nI k) = some M' ∧ _
    unfold s_X11_begin_181
    by_cases hk : k = 360
    · subst hk
      rw [if_pos (show (360 : Int32) ≤ nI 360 from nI_le (a := 360) (Nat.le_refl _) (by decide)), oR, gd_t, nx_t, nx_t]
      refine ⟨_, rfl, (OnlyK.rf.I (by omega)).I (by omega), fun j hj => ?_, ?_, ?_⟩
      · rw [gI_sI, if_neg (by omega), gI_sI, if_neg (by omega)]
        exact hz j hj
      · rw [gI_sI, if_neg (by omega), gI_sI, if_pos ⟨rfl, rfl⟩]
      · rw [gI_sI, if_pos ⟨rfl, rfl⟩]
    rw [if_neg (show ¬ (360 : Int32) ≤ nI k from nI_ge (b := 360) (by omega) (by decide)), oR, gd_t, rr_41 hR, bd_t, aB_t k zR_27 rfl (by omega) (by decide), gd_t, nx_t, vpn0, nI_clamp (by omega), nI_1]
    obtain ⟨M', b1, b2, b3⟩ := ih (k + 1) (sI M 27 k 0) (by omega) (by omega) hR.I (fun j hj => by
      rw [gI_sI]
      by_cases e : j = k
      · rw [if_pos ⟨rfl, e⟩]
      · rw [if_neg (by omega)]
        exact hz j (by omega))
    exact ⟨M', b1, (OnlyK.rf.I (by omega)).tr b2, b3⟩
theorem lkS_bg {D : MK} {b : Nat} : ∀ n, n ≤ kBy D b 3 → (∀ w, w < n → 1 ≤ kWt D b w 1) → n ≤ lkS (bgS D) b n
  | 0, _, _ => Nat.zero_le _
  | n + 1, h, hw => by
    have h1 := lkS_bg n (by omega) (fun w q => hw w (by omega))
    have h2 := hw n (by omega)
    have e : bgS D 5 b n = kWt D b n 1 := by
      simp only [bgS]
      simp
      intro z
      omega
    unfold lkS
    omega
def bgL (D : MK) (b w : Nat) : Nat := if w < kBy D b 3 then kWt D b w 1 else 0
theorem rb100 {D : MK} {b : Nat} (hb : b < kNb D) (k65 : Mem → Nat → Int32 → Option Mem) :
    ∀ n k M, k ≤ 3 → 3 < n + k → RC M D → (∀ w, w < k → gI M 26 (3 * b + w) = nI (bgL D b w)) → ∃ M', f_X11_begin_100 k65 n M 0 (nI b) (nI k) = k65 M' 0 (nI (b + 1)) ∧ OnlyK (fun a j => (a = 26 ∧ 3 * b ≤ j ∧ j < 3 * b + 3) ∨ (a = 25 ∧ j = b)) M M' ∧ (∀ w, w < 3 → gI M' 26 (3 * b + w) = nI (bgL D b w)) ∧ gI M' 25 b = (if kBy D b 3 = 0 then 0 else -1) := by
  intro n
  induction n with
  | zero => intro k M h1 h2; omega
  | succ n ih =>
    intro k M h1 h2 h hz
    have hW := h.2.1
    have hR := h.1
    have hn := hW.n
    have hby := hW.2.2.2.2.2.2 b hb
    show ∃ M', s_X11_begin_100 k65 (f_X11_begin_100 k65 n) M 0 (nI b) (nI k) = _ ∧ _
    unfold s_X11_begin_100
    by_cases hk : k = 3
    · subst hk
      have hl : f_X11_lackOf M 0 (nI b) = some (nI (lkS (bgS D) b (kBy D b 3))) := lackOfR_eq (H := bgS D) hR (by omega) (by omega) (fun w hw => by
        rw [hz w hw]
        congr 1
        unfold bgL
        by_cases e : w < kBy D b 3
        · rw [if_pos e, if_pos e]
          simp [bgS, e]
        · rw [if_neg e, if_neg e])
      rw [if_pos (show (3 : Int32) ≤ nI 3 from nI_le (a := 3) (Nat.le_refl _) (by decide)), oR, gd_t, rr_39 hR, bd_t, hl, bd_t]
      have hlk := lkS_bg (D := D) (b := b) (kBy D b 3) (Nat.le_refl _) (fun w q => (hby.2.2.2.2.1 w q).2.1)
      by_cases h0 : kBy D b 3 = 0
      · rw [if_pos (by rw [h0]; rfl), aB_t b zR_25 rfl (by omega) (by decide), gd_t, nx_t, nI_clamp (by omega), nI_1, if_pos h0]
        refine ⟨_, rfl, OnlyK.rf.I (by omega), fun w hw => ?_, ?_⟩
        · rw [gI_sI, if_neg (by omega)]
          exact hz w hw
        · rw [gI_sI, if_pos ⟨rfl, rfl⟩]
      · have hu := lkS_le (H := bgS D) (b := b) (fun w hw => by
          simp only [bgS]
          simp
          split
          · rename_i q
            exact (hby.2.2.2.2.1 w q).2.2.1
          · omega) (kBy D b 3) (by omega)
        rw [if_neg (nI_ne0 (by omega) (by omega)), aB_t b zR_25 rfl (by omega) (by decide), gd_t, nx_t, nI_clamp (by omega), nI_1, if_neg h0]
        refine ⟨_, rfl, OnlyK.rf.I (by omega), fun w hw => ?_, ?_⟩
        · rw [gI_sI, if_neg (by omega)]
          exact hz w hw
        · rw [gI_sI, if_pos ⟨rfl, rfl⟩]
    have m3 : (3 : Int32) * nI b + nI k = nI (3 * b + k) := by rw [show (3 : Int32) = nI 3 from rfl, pk_mul, nI_add]
    rw [if_neg (show ¬ (3 : Int32) ≤ nI k from nI_ge (b := 3) (by omega) (by decide)), oR, gd_t, rr_40 hR, bd_t, rr_20 hR, bd_t, show (4 : Int32) * nI b + 3 = nI (4 * b + 3) by rw [show (4 : Int32) = nI 4 from rfl, pk_mul, show (3 : Int32) = nI 3 from rfl, nI_add], aB_t (4 * b + 3) zR_10 rfl (by omega) (by decide), gd_t, nx_t, nI_clamp (by omega), h.by hb (j := 3) (by decide)]
    have fin : ∀ v : Int32, v = nI (bgL D b k) → ∃ M', f_X11_begin_100 k65 n (sI M 26 (3 * b + k) v) 0 (nI b) (nI (k + 1)) = k65 M' 0 (nI (b + 1)) ∧ OnlyK (fun a j => (a = 26 ∧ 3 * b ≤ j ∧ j < 3 * b + 3) ∨ (a = 25 ∧ j = b)) M M' ∧ (∀ w, w < 3 → gI M' 26 (3 * b + w) = nI (bgL D b w)) ∧ gI M' 25 b = (if kBy D b 3 = 0 then 0 else -1) := by
      intro v hv
      have hO : OnlyK inQ M (sI M 26 (3 * b + k) v) := OnlyK.rf.I (by unfold inQ; omega)
      obtain ⟨M', b1, b2, b3⟩ := ih (k + 1) (sI M 26 (3 * b + k) v) (by omega) (by omega) (h.onlyK hO) (fun w hw => by
        rw [gI_sI]
        by_cases e : w = k
        · rw [if_pos ⟨rfl, by omega⟩, hv, e]
        · rw [if_neg (by omega)]
          exact hz w (by omega))
      exact ⟨M', b1, (OnlyK.rf.I (by omega)).tr b2, b3⟩
    by_cases hw : kBy D b 3 ≤ k
    · rw [if_pos (nI_le hw (by omega)), m3, aB_t (3 * b + k) zR_26 rfl (by omega) (by decide), gd_t, nx_t, nI_clamp (by omega), nI_1]
      exact fin 0 (by unfold bgL; rw [if_neg (by omega)]; rfl)
    · rw [if_neg (nI_ge (by omega) (by omega)), rr_21 hR, bd_t, show (9 : Int32) * nI b + (3 : Int32) * nI k + 1 = nI (9 * b + 3 * k + 1) by rw [show (9 : Int32) = nI 9 from rfl, show (3 : Int32) = nI 3 from rfl, pk_mul, pk_mul, nI_add, nI_1], aB_t (9 * b + 3 * k + 1) zR_11 rfl (by omega) (by decide), gd_t, nx_t, nI_clamp (by omega), h.wt hb (w := k) (j := 1) (by omega) (by decide), m3, aB_t (3 * b + k) zR_26 rfl (by omega) (by decide), gd_t, nx_t, nI_clamp (by omega), nI_1]
      exact fin _ (by unfold bgL; rw [if_pos (by omega)])
def bgB (M : Mem) (D : MK) (b : Nat) : Prop := gI M 23 b = nI (kBy D b 1) ∧ gI M 24 b = 0 ∧ (∀ w, w < 3 → gI M 26 (3 * b + w) = nI (bgL D b w)) ∧ gI M 25 b = (if kBy D b 3 = 0 then 0 else -1)
theorem rb65 {D : MK} : ∀ n k M, k ≤ kNb D → kNb D < n + k → RC M D → (∀ b, b < k → bgB M D b) → ∃ M', f_X11_begin_65 n M 0 (nI k) = some M' ∧ OnlyK (fun a j => (23 ≤ a ∧ a ≤ 27) ∨ (a = 0 ∧ (j = 46 ∨ j = 47))) M M' ∧ (∀ b, b < kNb D → bgB M' D b) ∧ (∀ j, j < 360 → gI M' 27 j = 0) ∧ gI M' 0 46 = 0 ∧ gI M' 0 47 = 0 := by
  intro n
  induction n with
  | zero => intro k M h1 h2; omega
  | succ n ih =>
    intro k M h1 h2 h hz
    have hW := h.2.1
    have hR := h.1
    have hn := hW.n
    show ∃ M', s_X11_begin_65 (f_X11_begin_65 n) M 0 (nI k) = some M' ∧ _
    unfold s_X11_begin_65
    rw [oR, gd_t, rr_17 hR, bd_t, aB_l (i := 4) zR_7 (by decide), gd_t, h.nb]
    by_cases hk : k = kNb D
    · subst hk
      rw [if_pos (nI_le (Nat.le_refl _) (by omega)), show (0 : Int32) = nI 0 from rfl]
      obtain ⟨M', b1, b2, b3, b4⟩ := rb181 FU 0 M (by omega) (by unfold FU; omega) hR (fun j hj => by omega)
      refine ⟨M', b1, b2.mono (fun a j z => by omega), fun b hb => ?_, b3, b4⟩
      obtain ⟨c1, c2, c3, c4⟩ := hz b hb
      refine ⟨?_, ?_, fun w hw => ?_, ?_⟩
      · rw [b2.2 _ _ (by omega)]; exact c1
      · rw [b2.2 _ _ (by omega)]; exact c2
      · rw [b2.2 _ _ (by omega)]; exact c3 w hw
      · rw [b2.2 _ _ (by omega)]; exact c4
    have hkb : k < kNb D := by omega
    rw [if_neg (nI_ge (by omega) (by omega)), rr_37 hR, bd_t, rr_20 hR, bd_t, show (4 : Int32) * nI k + 1 = nI (4 * k + 1) by rw [show (4 : Int32) = nI 4 from rfl, pk_mul, nI_1], aB_t (4 * k + 1) zR_10 rfl (by omega) (by decide), gd_t, nx_t, nI_clamp (n := 4 * k + 1) (by omega), h.by hkb (j := 1) (by decide), aB_t k zR_23 rfl (by omega) (by decide), gd_t, nx_t, nI_clamp (n := k) (by omega), rr_38 hR.I, bd_t, aB_t k zR_24 rfl (by omega) (by decide), gd_t, nx_t]
    have hO : OnlyK inQ M (sI (sI M 23 k (nI (kBy D k 1))) 24 k 0) := (OnlyK.rf.I (by unfold inQ; omega)).I (by unfold inQ; omega)
    obtain ⟨M1, a1, a2, a3, a4⟩ := rb100 hkb (f_X11_begin_65 n) FU 0 (sI (sI M 23 k (nI (kBy D k 1))) 24 k 0) (by omega) (by unfold FU; omega) (h.onlyK hO) (fun w hw => by omega)
    rw [show (nI 0 : Int32) = 0 from rfl] at a1
    rw [a1]
    have hO2 : OnlyK (fun a j => (23 ≤ a ∧ a ≤ 26)) M M1 := ((OnlyK.rf.I (by omega)).I (by omega)).tr (a2.mono (fun a j z => by omega))
    obtain ⟨M', b1, b2, b3⟩ := ih (k + 1) M1 (by omega) (by omega) (h.onlyK (hO2.mono (fun a j z => by unfold inQ; omega))) (fun b hb => by
      by_cases e : b = k
      · subst e
        refine ⟨?_, ?_, a3, a4⟩
        · rw [a2.2 _ _ (by omega), gI_sI, if_neg (by omega), gI_sI, if_pos ⟨rfl, rfl⟩]
        · rw [a2.2 _ _ (by omega), gI_sI, if_pos ⟨rfl, rfl⟩]
      · obtain ⟨c1, c2, c3, c4⟩ := hz b (by omega)
        have ek : ∀ a j, ¬ (a = 23 ∧ j = k) → ¬ (a = 24 ∧ j = k) → ¬ ((a = 26 ∧ 3 * k ≤ j ∧ j < 3 * k + 3) ∨ (a = 25 ∧ j = k)) → gI M1 a j = gI M a j := fun a j q1 q2 q3 => by rw [a2.2 a j q3, gI_sI, if_neg q2, gI_sI, if_neg q1]
        refine ⟨?_, ?_, fun w hw => ?_, ?_⟩
        · rw [ek _ _ (by omega) (by omega) (by omega)]; exact c1
        · rw [ek _ _ (by omega) (by omega) (by omega)]; exact c2
        · rw [ek _ _ (by omega) (by omega) (by omega)]; exact c3 w hw
        · rw [ek _ _ (by omega) (by omega) (by omega)]; exact c4)
    exact ⟨M', b1, (hO2.mono (fun a j z => by omega)).tr b2, b3⟩
def bgQ (M : Mem) (D : MK) (s : Nat) : Prop := gI M 16 s = nI (kSl D s 3) ∧ gI M 17 s = nI (kSl D s 4) ∧ gI M 18 s = 0 ∧ gI M 19 s = 0 ∧ gI M 20 s = -1
theorem rb2 {D : MK} : ∀ n k M, k ≤ kNs D → kNs D < n + k → RC M D → (∀ s, s < k → bgQ M D s) → ∃ M', f_X11_begin_2 n M 0 (nI k) = some M' ∧ OnlyK inQ M M' ∧ (∀ s, s < kNs D → bgQ M' D s) ∧ (∀ b, b < kNb D → bgB M' D b) ∧ (∀ j, j < 360 → gI M' 27 j = 0) ∧ gI M' 0 46 = 0 ∧ gI M' 0 47 = 0 := by
  intro n
  induction n with
  | zero => intro k M h1 h2; omega
  | succ n ih =>
    intro k M h1 h2 h hz
    have hW := h.2.1
    have hR := h.1
    have hn := hW.n
    show ∃ M', s_X11_begin_2 (f_X11_begin_2 n) M 0 (nI k) = some M' ∧ _
    unfold s_X11_begin_2
    rw [oR, gd_t, rr_17 hR, bd_t, aB_l (i := 3) zR_7 (by decide), gd_t, h.ns]
    by_cases hk : k = kNs D
    · subst hk
      rw [if_pos (nI_le (Nat.le_refl _) (by omega)), show (0 : Int32) = nI 0 from rfl]
      obtain ⟨M', b1, b2, b3⟩ := rb65 FU 0 M (by omega) (by unfold FU; omega) h (fun j hj => by omega)
      refine ⟨M', b1, b2.mono (fun a j z => by unfold inQ; omega), fun s hs => ?_, b3⟩
      obtain ⟨c1, c2, c3, c4, c5⟩ := hz s hs
      refine ⟨?_, ?_, ?_, ?_, ?_⟩
      · rw [b2.2 _ _ (by omega)]; exact c1
      · rw [b2.2 _ _ (by omega)]; exact c2
      · rw [b2.2 _ _ (by omega)]; exact c3
      · rw [b2.2 _ _ (by omega)]; exact c4
      · rw [b2.2 _ _ (by omega)]; exact c5
    have hks : k < kNs D := by omega
    have hO1 : OnlyK inQ M (sI M 16 k (nI (kSl D k 3))) := OnlyK.rf.I (by unfold inQ; omega)
    rw [if_neg (nI_ge (by omega) (by omega)), rr_30 hR, bd_t, h.of hks (j := 3) (by decide) (y := 3) rfl, bd_t, aB_t k zR_16 rfl (by omega) (by decide), gd_t, nx_t, nI_clamp (n := k) (by omega), rr_31 hR.I, bd_t, (h.onlyK hO1).of hks (j := 4) (by decide) (y := 4) rfl, bd_t, aB_t k zR_17 rfl (by omega) (by decide), gd_t, nx_t, rr_32 hR.I.I, bd_t, aB_t k zR_18 rfl (by omega) (by decide), gd_t, nx_t, rr_33 hR.I.I.I, bd_t, aB_t k zR_19 rfl (by omega) (by decide), gd_t, nx_t, rr_34 hR.I.I.I.I, bd_t, aB_t k zR_20 rfl (by omega) (by decide), gd_t, nx_t, nI_1]
    have hO : OnlyK (fun a j => 16 ≤ a ∧ a ≤ 20 ∧ j = k) M (sI (sI (sI (sI (sI M 16 k (nI (kSl D k 3))) 17 k (nI (kSl D k 4))) 18 k 0) 19 k 0) 20 k (-1)) := ((((OnlyK.rf.I (by omega)).I (by omega)).I (by omega)).I (by omega)).I (by omega)
    obtain ⟨M', b1, b2, b3⟩ := ih (k + 1) _ (by omega) (by omega) (h.onlyK (hO.mono (fun a j z => by unfold inQ; omega))) (fun s hs => by
      by_cases e : s = k
      · subst e
        refine ⟨?_, ?_, ?_, ?_, ?_⟩
        · rw [gI_sI, if_neg (by omega), gI_sI, if_neg (by omega), gI_sI, if_neg (by omega), gI_sI, if_neg (by omega), gI_sI, if_pos ⟨rfl, rfl⟩]
        · rw [gI_sI, if_neg (by omega), gI_sI, if_neg (by omega), gI_sI, if_neg (by omega), gI_sI, if_pos ⟨rfl, rfl⟩]
        · rw [gI_sI, if_neg (by omega), gI_sI, if_neg (by omega), gI_sI, if_pos ⟨rfl, rfl⟩]
        · rw [gI_sI, if_neg (by omega), gI_sI, if_pos ⟨rfl, rfl⟩]
        · rw [gI_sI, if_pos ⟨rfl, rfl⟩]
      · obtain ⟨c1, c2, c3, c4, c5⟩ := hz s (by omega)
        refine ⟨?_, ?_, ?_, ?_, ?_⟩
        · rw [hO.2 _ _ (by omega)]; exact c1
        · rw [hO.2 _ _ (by omega)]; exact c2
        · rw [hO.2 _ _ (by omega)]; exact c3
        · rw [hO.2 _ _ (by omega)]; exact c4
        · rw [hO.2 _ _ (by omega)]; exact c5)
    exact ⟨M', b1, (hO.mono (fun a j z => by unfold inQ; omega)).tr b2, b3⟩
theorem bgX {D : MK} {H0 : HS} (h : ∀ t i j, (t ≠ 2 ∧ t ≠ 3) ∨ kNs D ≤ i → H0 t i j = bgS D t i j) : opS D 0 H0 = opS D 0 (bgS D) := by
  funext t i j
  simp only [opS]
  by_cases h0 : t = 0
  · subst h0
    rw [h 0 i j (by omega)]
    simp
  · by_cases h10 : t = 10
    · subst h10
      rw [h 10 i j (by omega), h 0 i 0 (by omega)]
    · by_cases h23 : t = 2 ∨ t = 3
      · by_cases hi : i < kNs D
        · rw [if_neg (by omega), if_neg (by omega), if_pos ⟨h23, hi⟩, if_neg (by omega), if_neg (by omega), if_pos ⟨h23, hi⟩]
        · rw [if_neg (by omega), if_neg (by omega), if_neg (by omega), if_neg (by omega), if_neg (by omega), if_neg (by omega)]
          exact h t i j (by omega)
      · rw [if_neg (by omega), if_neg (by omega), if_neg (by omega), if_neg (by omega), if_neg (by omega), if_neg (by omega)]
        exact h t i j (by omega)
theorem rbegin_eq {M : Mem} {D : MK} (h : RC M D) : ∃ M' H0, f_X11_begin M 0 = some M' ∧ OnlyK inQ M M' ∧ RH M' D H0 ∧ opS D 0 H0 = opS D 0 (bgS D) ∧ (∀ t i j, t ≠ 2 → t ≠ 3 → H0 t i j = bgS D t i j) := by
  have hn := h.2.1.n
  obtain ⟨M', r1, r2, r3, r4, r5, r6, r7⟩ := rb2 FU 0 M (by omega) (by unfold FU; omega) h (fun s hs => by omega)
  obtain ⟨f2, hf2⟩ := Classical.axiomOfChoice (fun s => i32_nI (gI M' 21 s))
  obtain ⟨f3, hf3⟩ := Classical.axiomOfChoice (fun s => i32_nI (gI M' 22 s))
  have e8 : (fun t i j => if t = 2 ∧ i < kNs D then f2 i else if t = 3 ∧ i < kNs D then f3 i else bgS D t i j : HS) 8 0 0 = 0 := by simp [bgS]
  refine ⟨M', fun t i j => if t = 2 ∧ i < kNs D then f2 i else if t = 3 ∧ i < kNs D then f3 i else bgS D t i j, r1, r2, ⟨?_, fun s hs => ?_, fun b hb => ?_, fun i hi => ?_⟩, bgX (fun t i j q => ?_), fun t i j q1 q2 => ?_⟩
  · rw [e8]
    exact ⟨r6, r7⟩
  · obtain ⟨c1, c2, c3, c4, c5⟩ := r3 s hs
    rw [e8]
    refine ⟨?_, fun _ => ?_, c3, c4, c5, ?_, ?_⟩
    · rw [c1]; simp [bgS]
    · rw [c2]; simp [bgS]
    · rw [hf2 s]; simp [hs]
    · rw [hf3 s]; simp [hs]
  · obtain ⟨c1, c2, c3, c4⟩ := r4 b hb
    rw [e8]
    refine ⟨?_, c2, ?_, fun w hw => ?_, fun j hj => ?_⟩
    · rw [c1]; simp [bgS]
    · rw [c4]
      by_cases e : kBy D b 3 = 0
      · simp [bgS, e]
        rfl
      · simp [bgS, e]
    · rw [c3 w hw]
      unfold bgL
      congr 1
      by_cases e : w < kBy D b 3
      · rw [if_pos e, if_pos e]; simp [bgS, e]
      · rw [if_neg e, if_neg e]
    · rw [r5 _ (by omega)]; simp [bgS]; rfl
  · rw [e8] at hi
    omega
  · show (if t = 2 ∧ i < kNs D then f2 i else if t = 3 ∧ i < kNs D then f3 i else bgS D t i j) = _
    rw [if_neg (by omega), if_neg (by omega)]
  · show (if t = 2 ∧ i < kNs D then f2 i else if t = 3 ∧ i < kNs D then f3 i else bgS D t i j) = _
    rw [if_neg (by omega), if_neg (by omega)]
