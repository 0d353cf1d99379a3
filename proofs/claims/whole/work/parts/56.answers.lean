/-! ANSWERS OF THE HOUR -/
theorem in_c {M : Mem} {a : Int32} (n : Nat) {hi : Int64} (hn : n < 2 ^ 31) (hh : hi = (nI n - 1).toInt64) : f_X11_in M a.toInt64 0 hi = some (if 0 ≤ a ∧ a < nI n then 1 else 0) := by
  rw [hh]
  exact in0n hn rfl
theorem rng {α : Type} (c : Int32) (n : Nat) {hi : Int32} (hn : n < 2 ^ 31) (hh : hi = nI n - 1) (x y : α) : (if c < 0 then x else if c ≤ hi then y else x) = if 0 ≤ c ∧ c < nI n then y else x := by
  subst hh
  rcases ix_or c n hn with z | ⟨j, hj, rfl⟩
  · rw [if_neg z]
    by_cases c0 : c < 0
    · rw [if_pos c0]
    · rw [if_neg c0, if_neg (fun y => z ⟨Int32.not_lt.mp c0, (le_pred hn).mp y⟩)]
  · rw [if_pos (ix_in hj hn), if_neg (nI_pos (by omega)), if_pos ((le_pred hn).mpr (nI_lt hj hn))]
theorem rngA {α : Type} (c : Int32) (n : Nat) {hi : Int32} (hn : n < 2 ^ 31) (hh : hi = nI n) (x y : α) : (if c < 0 then x else if c < hi then y else x) = if 0 ≤ c ∧ c < nI n then y else x := by
  subst hh
  rcases ix_or c n hn with z | ⟨j, hj, rfl⟩
  · rw [if_neg z]
    by_cases c0 : c < 0
    · rw [if_pos c0]
    · rw [if_neg c0, if_neg (fun y => z ⟨Int32.not_lt.mp c0, y⟩)]
  · rw [if_pos (ix_in hj hn), if_neg (nI_pos (by omega)), if_pos (nI_lt hj hn)]
theorem rngB {α : Type} (c : Int32) (n : Nat) {hi : Int32} (hn : n < 2 ^ 31) (hh : hi = nI n) (x y : α) : (if c < 0 then x else if hi ≤ c then x else y) = if 0 ≤ c ∧ c < nI n then y else x := by
  subst hh
  rcases ix_or c n hn with z | ⟨j, hj, rfl⟩
  · rw [if_neg z]
    by_cases c0 : c < 0
    · rw [if_pos c0]
    · rw [if_neg c0]
      by_cases c1 : nI n ≤ c
      · rw [if_pos c1]
      · exact absurd ⟨Int32.not_lt.mp c0, Int32.not_le.mp c1⟩ z
  · rw [if_pos (ix_in hj hn), if_neg (nI_pos (by omega)), if_neg (nI_ge hj hn)]
theorem rngC {α : Type} (c : Int32) (n : Nat) {hi : Int32} (hn : n < 2 ^ 31) (hh : hi = nI n - 1) (x y : α) : (if c < 0 then x else if hi < c then x else y) = if 0 ≤ c ∧ c < nI n then y else x := by
  have := rng c n hn hh x y
  rw [← this]
  by_cases c0 : c < 0
  · rw [if_pos c0, if_pos c0]
  · rw [if_neg c0, if_neg c0]
    by_cases c1 : hi < c
    · rw [if_pos c1, if_neg (Int32.not_le.mpr c1)]
    · rw [if_neg c1, if_pos (Int32.not_lt.mp c1)]
theorem mk_ix {k : Int32} (c : Nat) (hk : k = nI c) (a b : Nat) : k * nI a + nI b = nI (c * a + b) := by
  subst hk
  rw [pk_mul, nI_add]
theorem m60 (a b : Nat) : (60 : Int32) * nI a + nI b = nI (60 * a + b) := mk_ix 60 rfl a b
theorem m4 (a b : Nat) : (4 : Int32) * nI a + nI b = nI (4 * a + b) := mk_ix 4 rfl a b
theorem m4_1 (a : Nat) : (4 : Int32) * nI a + 1 = nI (4 * a + 1) := mk_ix 4 rfl a 1
theorem m4_3 (a : Nat) : (4 : Int32) * nI a + 3 = nI (4 * a + 3) := mk_ix 4 rfl a 3
theorem m4_0 (a : Nat) : (4 : Int32) * nI a = nI (4 * a) := by rw [show (4 : Int32) = nI 4 from rfl, pk_mul]
theorem eh_of {p d : Nat} {D : MK} {M1 M2 : Mem} (h : Rel0 p d D M1 M2) (t : HourC M1 p D) (h0 : 0 < kMi D) : EH M1 p D := ⟨h.c, h.mb, h.wf, h.cm, t, h0⟩
theorem hc_of {p d : Nat} {D : MK} {M1 M2 : Mem} (h : Rel0 p d D M1 M2) (t : HourC M1 p D) : HC M1 p D := ⟨h.mb, h.c, t.1, h.wf, h.cm, t.2.1, t.2.2.1⟩
theorem eq_asks {M1 M2 : Mem} (h : Rel M1 M2) (a b : Int32) : Same (f_X10_asks M1 0 a b) (f_X11_asks_ M2 0 a b) := by
  obtain ⟨p, d, D, h, hk⟩ := h
  have h' := h.r0
  have hb := h.ba
  unfold f_X10_asks f_X11_asks_
  rw [oC_0, gd_t, h.g1, bd_t, h.oP, gd_t, oR, gd_t, nx_t, gS1 h, bd_t, gS2 h', bd_t]
  rcases ix_or a (kNs D) (by omega) with z | ⟨s, hs, rfl⟩
  · rw [if_neg z, if_pos rfl, if_pos rfl]
    exact same_no h' hk _
  rw [if_pos (ix_in hs (by omega)), if_neg (show ¬ (1 : Int32) = 0 by decide), if_neg (show ¬ (1 : Int32) = 0 by decide), gM1 h, bd_t, gM2 h', bd_t]
  rcases ix_or b (kMi D) (by omega) with z | ⟨m, hm, rfl⟩
  · rw [if_neg z, if_pos rfl, if_pos rfl]
    exact same_no h' hk _
  rw [if_pos (ix_in hm (by omega)), if_neg (show ¬ (1 : Int32) = 0 by decide), if_neg (show ¬ (1 : Int32) = 0 by decide)]
  obtain ⟨M1', M2', t1, u1, h2, t3, u3, -⟩ := bothH h' hk (by omega)
  rw [t1, bd_t, u1, bd_t]
  dsimp only
  rw [oC_84, gd_t, cr_84_1 h2.c, bd_t, aB_t s zC_99 rfl (by omega) (by decide), gd_t, nI_clamp (n := s) (by omega), cr_a h2.c (by omega), bd_t, aB_t m (zC_a s (by omega)).1.1 rfl (by omega) (by decide), gd_t, nI_clamp (n := m) (by omega), t3.2.2.2.2.1 s hs m hm, rr_42 h2.r, bd_t, m60, aB_t (60 * s + m) zR_28 rfl (by omega) (by decide), gd_t, nx_t, nI_clamp (by omega), (u3.2.2.1 s hs m hm).1]
  exact same_at h2 t3 _
theorem eq_has {M1 M2 : Mem} (h : Rel M1 M2) (a b : Int32) : Same (f_X10_has M1 0 a b) (f_X11_has M2 0 a b) := by
  obtain ⟨p, d, D, h, hk⟩ := h
  have h' := h.r0
  have hb := h.ba
  unfold f_X10_has f_X11_has
  rw [oC_0, gd_t, h.g1, bd_t, h.oP, gd_t, oR, gd_t, nx_t, gS1 h, bd_t, gS2 h', bd_t]
  rcases ix_or a (kNs D) (by omega) with z | ⟨s, hs, rfl⟩
  · rw [if_neg z, if_pos rfl, if_pos rfl]
    exact same_no h' hk _
  rw [if_pos (ix_in hs (by omega)), if_neg (show ¬ (1 : Int32) = 0 by decide), if_neg (show ¬ (1 : Int32) = 0 by decide), gM1 h, bd_t, gM2 h', bd_t]
  rcases ix_or b (kMi D) (by omega) with z | ⟨m, hm, rfl⟩
  · rw [if_neg z, if_pos rfl, if_pos rfl]
    exact same_no h' hk _
  rw [if_pos (ix_in hm (by omega)), if_neg (show ¬ (1 : Int32) = 0 by decide), if_neg (show ¬ (1 : Int32) = 0 by decide)]
  obtain ⟨M1', M2', t1, u1, h2, t3, u3, -⟩ := bothH h' hk (by omega)
  rw [t1, bd_t, u1, bd_t]
  dsimp only
  rw [oC_84, gd_t, cr_84_2 h2.c, bd_t, aB_t s zC_108 rfl (by omega) (by decide), gd_t, nI_clamp (n := s) (by omega), cr_lf h2.c (by omega), bd_t, aB_t m (zC_a s (by omega)).2.1 rfl (by omega) (by decide), gd_t, nI_clamp (n := m) (by omega), t3.2.2.2.2.2.1 s hs m hm, rr_43 h2.r, bd_t, m60, aB_t (60 * s + m) zR_29 rfl (by omega) (by decide), gd_t, nx_t, nI_clamp (by omega), (u3.2.2.1 s hs m hm).2]
  exact same_at h2 t3 _
theorem eq_coins {M1 M2 : Mem} (h : Rel M1 M2) (a b : Int32) : Same (f_X10_coins M1 0 a b) (f_X11_coins M2 0 a b) := by
  obtain ⟨p, d, D, h, hk⟩ := h
  have h' := h.r0
  have hb := h.ba
  unfold f_X10_coins f_X11_coins
  rw [oC_0, gd_t, h.g1, bd_t, h.oP, gd_t, oR, gd_t, nx_t, gB1 h, bd_t, gB2 h', bd_t]
  rcases ix_or a (kNb D) (by omega) with z | ⟨s, hs, rfl⟩
  · rw [if_neg z, if_pos rfl, if_pos rfl]
    exact same_no h' hk _
  rw [if_pos (ix_in hs (by omega)), if_neg (show ¬ (1 : Int32) = 0 by decide), if_neg (show ¬ (1 : Int32) = 0 by decide), gM1 h, bd_t, gM2 h', bd_t]
  rcases ix_or b (kMi D) (by omega) with z | ⟨m, hm, rfl⟩
  · rw [if_neg z, if_pos rfl, if_pos rfl]
    exact same_no h' hk _
  rw [if_pos (ix_in hm (by omega)), if_neg (show ¬ (1 : Int32) = 0 by decide), if_neg (show ¬ (1 : Int32) = 0 by decide)]
  obtain ⟨M1', M2', t1, u1, h2, t3, u3, -⟩ := bothH h' hk (by omega)
  rw [t1, bd_t, u1, bd_t]
  dsimp only
  rw [oC_84, gd_t, cr_84_3 h2.c, bd_t, aB_t s zC_117 rfl (by omega) (by decide), gd_t, nI_clamp (n := s) (by omega), cr_u h2.c (by omega), bd_t, aB_t m (zC_u s (by omega)).1 rfl (by omega) (by decide), gd_t, nI_clamp (n := m) (by omega), t3.2.2.2.2.2.2 s hs m hm, rr_44 h2.r, bd_t, m60, aB_t (60 * s + m) zR_30 rfl (by omega) (by decide), gd_t, nx_t, nI_clamp (by omega), u3.2.2.2 s hs m hm]
  exact same_at h2 t3 _
theorem j3 {j : Nat} (h : j < 3) : j = 0 ∨ j = 1 ∨ j = 2 := by omega
theorem j4 {j : Nat} (h : j < 4) : j = 0 ∨ j = 1 ∨ j = 2 ∨ j = 3 := by omega
theorem j5 {j : Nat} (h : j < 5) : j = 0 ∨ j = 1 ∨ j = 2 ∨ j = 3 ∨ j = 4 := by omega
theorem eq_sold {M1 M2 : Mem} (h : Rel M1 M2) (a b : Int32) : Same (f_X10_sold M1 0 a b) (f_X11_sold M2 0 a b) := by
  obtain ⟨p, d, D, h, hk⟩ := h
  have h' := h.r0
  have hb := h.ba
  unfold f_X10_sold f_X11_sold
  rw [oC_0, gd_t, h.g1, bd_t, h.oP, gd_t, oR, gd_t, nx_t, gS1 h, bd_t, gS2 h', bd_t]
  rcases ix_or a (kNs D) (by omega) with z | ⟨s, hs, rfl⟩
  · rw [if_neg z, if_pos rfl, if_pos rfl]
    exact same_no h' hk _
  rw [if_pos (ix_in hs (by omega)), if_neg (show ¬ (1 : Int32) = 0 by decide), if_neg (show ¬ (1 : Int32) = 0 by decide), in_c 3 (by decide) (by decide), bd_t]
  rcases ix_or b 3 (by decide) with z | ⟨j, hj, rfl⟩
  · rw [if_neg (show ¬ b = 0 from ne_out z (k := 0) (by decide) (by decide)), if_neg (show ¬ b = 1 from ne_out z (k := 1) (by decide) (by decide)), if_neg (show ¬ b = 2 from ne_out z (k := 2) (by decide) (by decide)), if_neg z, if_pos rfl]
    exact same_no h' hk _
  rw [if_pos (ix_in hj (by decide)), if_neg (show ¬ (1 : Int32) = 0 by decide)]
  obtain ⟨M1', M2', t1, u1, h2, t3, u3, -⟩ := bothH h' hk (some_p h (Or.inl (by omega))).1
  have e := eh_of h2 t3 (some_p h (Or.inl (by omega))).1
  have q := u3.2.1.2.1 s hs
  rw [t1, u1]
  rcases j3 hj with rfl | rfl | rfl
  · rw [if_pos (show nI 0 = 0 from rfl), bd_t, bd_t, if_pos (show nI 0 = 0 from rfl)]
    dsimp only
    rw [oC_84, gd_t, salesAt_eq e hs, bd_t, rr_33 h2.r, bd_t, aB_t s zR_19 rfl (by omega) (by decide), gd_t, nI_clamp (by omega), q.2.2.2.1]
    exact same_at h2 t3 _
  · rw [if_neg (show ¬ nI 1 = 0 by decide), if_pos (show nI 1 = 1 from rfl), bd_t, bd_t, if_neg (show ¬ nI 1 = 0 by decide), if_pos (show nI 1 = 1 from rfl)]
    dsimp only
    rw [oC_84, gd_t, takenAt_eq e hs, bd_t, rr_32 h2.r, bd_t, aB_t s zR_18 rfl (by omega) (by decide), gd_t, nI_clamp (by omega), q.2.2.1]
    exact same_at h2 t3 _
  · rw [if_neg (show ¬ nI 2 = 0 by decide), if_neg (show ¬ nI 2 = 1 by decide), if_pos (show nI 2 = 2 from rfl), bd_t, bd_t, if_neg (show ¬ nI 2 = 0 by decide), if_neg (show ¬ nI 2 = 1 by decide)]
    dsimp only
    rw [oC_84, gd_t, firstMinuteAt_eq e hs, bd_t, rr_34 h2.r, bd_t, aB_t s zR_20 rfl (by omega) (by decide), gd_t, nI_clamp (by omega), q.2.2.2.2.1]
    exact same_at h2 t3 _
theorem eq_bought {M1 M2 : Mem} (h : Rel M1 M2) (a b : Int32) : Same (f_X10_bought M1 0 a b) (f_X11_bought M2 0 a b) := by
  obtain ⟨p, d, D, h, hk⟩ := h
  have h' := h.r0
  have hb := h.ba
  unfold f_X10_bought f_X11_bought
  rw [oC_0, gd_t, h.g1, bd_t, h.oP, gd_t, oR, gd_t, nx_t, gB1 h, bd_t, gB2 h', bd_t]
  rcases ix_or a (kNb D) (by omega) with z | ⟨s, hs, rfl⟩
  · rw [if_neg z, if_pos rfl, if_pos rfl]
    exact same_no h' hk _
  rw [if_pos (ix_in hs (by omega)), if_neg (show ¬ (1 : Int32) = 0 by decide), if_neg (show ¬ (1 : Int32) = 0 by decide), in_c 4 (by decide) (by decide), bd_t]
  rcases ix_or b 4 (by decide) with z | ⟨j, hj, rfl⟩
  · rw [if_neg (show ¬ b = 0 from ne_out z (k := 0) (by decide) (by decide)), if_neg (show ¬ b = 1 from ne_out z (k := 1) (by decide) (by decide)), if_neg (show ¬ b = 2 from ne_out z (k := 2) (by decide) (by decide)), if_neg (show ¬ b = 3 from ne_out z (k := 3) (by decide) (by decide)), if_neg z, if_pos rfl]
    exact same_no h' hk _
  rw [if_pos (ix_in hj (by decide)), if_neg (show ¬ (1 : Int32) = 0 by decide)]
  obtain ⟨M1', M2', t1, u1, h2, t3, u3, -⟩ := bothH h' hk (some_p h (Or.inr (Or.inl (by omega)))).1
  have e := eh_of h2 t3 (some_p h (Or.inr (Or.inl (by omega)))).1
  have q := u3.2.1.2.2.1 s hs
  have c := t3.2.2.2.1.2.2.1 s hs
  rw [t1, u1]
  rcases j4 hj with rfl | rfl | rfl | rfl
  · rw [if_pos (show nI 0 = 0 from rfl), bd_t, bd_t, if_pos (show nI 0 = 0 from rfl)]
    dsimp only
    rw [oC_84, gd_t, salesTo_eq e hs, bd_t, rr_38 h2.r, bd_t, aB_t s zR_24 rfl (by omega) (by decide), gd_t, nI_clamp (by omega), q.2.1]
    exact same_at h2 t3 _
  · rw [if_neg (show ¬ nI 1 = 0 by decide), if_pos (show nI 1 = 1 from rfl), bd_t, bd_t, if_neg (show ¬ nI 1 = 0 by decide), if_pos (show nI 1 = 1 from rfl)]
    dsimp only
    obtain ⟨g1, g2, g3, g4, g5⟩ := by_rd h2 hs
    unfold f_X3_spentBy
    rw [oC_84, gd_t, gd_t, t3.1, bd_t, h2.oP, gd_t, g1, bd_t, g2, gd_t, g3, bd_t, g4, gd_t, cr_84_15 h2.c, bd_t, aB_t s zC_133 rfl (by omega) (by decide), gd_t, nx_t, bd_t, g5 1 (by decide), nI_clamp (by omega), c.1, rr_20 h2.r, bd_t, m4_1, aB_t (4 * s + 1) zR_10 rfl (by omega) (by decide), gd_t, nx_t, nI_clamp (by omega), u3.1.by hs (by decide), rr_37 h2.r, bd_t, aB_t s zR_23 rfl (by omega) (by decide), gd_t, q.1]
    exact same_at h2 t3 _
  · rw [if_neg (show ¬ nI 2 = 0 by decide), if_neg (show ¬ nI 2 = 1 by decide), if_pos (show nI 2 = 2 from rfl), bd_t, bd_t, if_neg (show ¬ nI 2 = 0 by decide), if_neg (show ¬ nI 2 = 1 by decide), if_pos (show nI 2 = 2 from rfl)]
    dsimp only
    rw [oC_84, gd_t, lackOf_eq (hc_of h2 t3) hs c.2.1, bd_t, lackOfR_eq h2.r (by omega) (h.wf.2.2.2.2.2.2 s hs).2.2.2.1 q.2.2.2.1, bd_t]
    exact same_at h2 t3 _
  · rw [if_neg (show ¬ nI 3 = 0 by decide), if_neg (show ¬ nI 3 = 1 by decide), if_neg (show ¬ nI 3 = 2 by decide), if_pos (show nI 3 = 3 from rfl), bd_t, bd_t, if_neg (show ¬ nI 3 = 0 by decide), if_neg (show ¬ nI 3 = 1 by decide), if_neg (show ¬ nI 3 = 2 by decide)]
    dsimp only
    rw [oC_84, gd_t, cr_84_9 h2.c, bd_t, aB_t s zC_128 rfl (by omega) (by decide), gd_t, nI_clamp (by omega), c.2.2.2, rr_39 h2.r, bd_t, aB_t s zR_25 rfl (by omega) (by decide), gd_t, q.2.2.1]
    exact same_at h2 t3 _
theorem eq_sale {M1 M2 : Mem} (h : Rel M1 M2) (a b : Int32) : Same (f_X10_sale M1 0 a b) (f_X11_sale M2 0 a b) := by
  obtain ⟨p, d, D, h, hk⟩ := h
  have h' := h.r0
  have hb := h.ba
  unfold f_X10_sale f_X11_sale
  rw [oC_0, gd_t, h.g1, bd_t, h.oP, gd_t, oR, gd_t, nx_t, gT1 h, bd_t, gT2 h', bd_t]
  rcases Nat.eq_zero_or_pos (kLn D) with hl | hl
  · rw [if_neg (show ¬ 0 < kLn D by omega), if_pos rfl, if_pos rfl]
    exact same_no h' hk _
  rw [if_pos hl, if_neg (show ¬ (1 : Int32) = 0 by decide), if_neg (show ¬ (1 : Int32) = 0 by decide), in_c 4 (by decide) (by decide), bd_t, rng b 4 (by decide) (by decide)]
  rcases ix_or b 4 (by decide) with z | ⟨j, hj, rfl⟩
  · rw [if_neg z, if_neg z, if_pos rfl]
    exact same_no h' hk _
  rw [if_pos (ix_in hj (by decide)), if_pos (ix_in hj (by decide)), if_neg (show ¬ (1 : Int32) = 0 by decide)]
  obtain ⟨M1', M2', t1, u1, h2, t3, u3, -⟩ := bothH h' hk (told_p h hl).1
  have e := eh_of h2 t3 (told_p h hl).1
  have hn := e.n
  rw [t1, u1, bd_t, bd_t]
  dsimp only
  rw [oC_84, gd_t, e.g4, u3.2.1.1.1, in0n (n := hrS D (kMi D) 8 0 0) (by omega) rfl, bd_t, rngA a (hrS D (kMi D) 8 0 0) (by omega) rfl]
  rcases ix_or a (hrS D (kMi D) 8 0 0) (by omega) with z | ⟨i, hi, rfl⟩
  · rw [if_neg z, if_neg z, if_pos rfl]
    exact same_at h2 t3 _
  obtain ⟨x1, x2, x3, x4⟩ := e.sa hi
  have y := u3.2.1.2.2.2 i hi
  rw [if_pos (ix_in hi (by omega)), if_pos (ix_in hi (by omega)), if_neg (show ¬ (1 : Int32) = 0 by decide), rr_45 h2.r, bd_t, m4, aB_t (4 * i + j) zR_31 rfl (by omega) (by decide), gd_t, nx_t, nI_clamp (n := 4 * i + j) (by omega), y j hj]
  rcases j4 hj with rfl | rfl | rfl | rfl
  · rw [if_pos (show nI 0 = 0 from rfl), cr_84_5 h2.c, bd_t, aB_t i zC_124 rfl (by omega) (by decide), gd_t, nI_clamp (by omega), x1]
    exact same_at h2 t3 _
  · rw [if_neg (show ¬ nI 1 = 0 by decide), if_pos (show nI 1 = 1 from rfl), cr_84_6 h2.c, bd_t, aB_t i zC_125 rfl (by omega) (by decide), gd_t, nI_clamp (by omega), x2]
    exact same_at h2 t3 _
  · rw [if_neg (show ¬ nI 2 = 0 by decide), if_neg (show ¬ nI 2 = 1 by decide), if_pos (show nI 2 = 2 from rfl), cr_84_7 h2.c, bd_t, aB_t i zC_126 rfl (by omega) (by decide), gd_t, nI_clamp (by omega), x3]
    exact same_at h2 t3 _
  · rw [if_neg (show ¬ nI 3 = 0 by decide), if_neg (show ¬ nI 3 = 1 by decide), if_neg (show ¬ nI 3 = 2 by decide), cr_84_8 h2.c, bd_t, aB_t i zC_127 rfl (by omega) (by decide), gd_t, nI_clamp (by omega), x4]
    exact same_at h2 t3 _
