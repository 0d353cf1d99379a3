/-! FIRST EQUALITIES -/
theorem KeepR.rf {M : Mem} (h : RR M) : KeepR M M := ⟨h, fun _ _ _ => rfl, fun _ => rfl⟩
theorem KeepR.tr {M M' M'' : Mem} (h : KeepR M M') (h' : KeepR M' M'') : KeepR M M'' := ⟨h'.1, fun a k q => (h'.2.1 a k q).trans (h.2.1 a k q), fun k => (h'.2.2 k).trans (h.2.2 k)⟩
theorem KeepR.I {M M' : Mem} {a k : Nat} {v : Int32} (h : KeepR M M') (hk : kR a k = false) : KeepR M (sI M' a k v) := by
  refine ⟨h.1.I, fun b j q => ?_, fun j => h.2.2 j⟩
  rw [gI_sI, if_neg, h.2.1 b j q]
  rintro ⟨rfl, rfl⟩
  rw [q] at hk
  cases hk
theorem KeepR.L {M M' : Mem} {a k : Nat} {v : Int64} (h : KeepR M M') (hk : a ≠ 3) : KeepR M (sL M' a k v) := by
  refine ⟨h.1.L, fun b j q => h.2.1 b j q, fun j => ?_⟩
  rw [gL_sL, if_neg, h.2.2 j]
  rintro ⟨rfl, -⟩
  exact hk rfl
/-- a number 0 to n - 1, or none -/
theorem ix_or (x : Int32) (n : Nat) (hn : n < 2 ^ 31) : (¬ (0 ≤ x ∧ x < nI n)) ∨ ∃ j, j < n ∧ x = nI j := by
  rcases pk_ix x hn with h | h | h
  · exact Or.inl (fun z => by
      have := Int32.lt_iff_toInt_lt.mp h
      have h2 := Int32.le_iff_toInt_le.mp z.1
      omega)
  · exact Or.inl (fun z => by
      have := Int32.le_iff_toInt_le.mp h
      have h2 := Int32.lt_iff_toInt_lt.mp z.2
      omega)
  · exact Or.inr h
theorem ix_in {j n : Nat} (h : j < n) (hn : n < 2 ^ 31) : 0 ≤ nI j ∧ nI j < nI n := ⟨nI_pos' (by omega), nI_lt h hn⟩
theorem ne_out {x : Int32} {n k : Nat} (h : ¬ (0 ≤ x ∧ x < nI n)) (hk : k < n) (hn : n < 2 ^ 31) : ¬ x = nI k := fun e => h (by rw [e]; exact ix_in hk hn)
theorem aB_l {sh : Shp} {q t L : Nat} {i : Int32} (hs : sh q = (100 + t, L)) (hi : inb i L = true) : aB sh q t i = true := by
  unfold aB
  rw [hs, hi]
  simp
section HS
variable {M : Mem} {b : Nat} {a : Int32} {n : Nat}
theorem has0 (hn : n < 2 ^ 31) {v : Int32} (hv : v = nI n) : (if a < 0 then some (0 : Int32) else if v ≤ a then some 0 else some 1) = some (if 0 ≤ a ∧ a < nI n then 1 else 0) := by
  subst hv
  rcases ix_or a n hn with h | ⟨j, hj, rfl⟩
  · rw [if_neg h]
    split
    · rfl
    · rename_i h1
      rw [if_pos]
      rw [Int32.le_iff_toInt_le]
      have h2 : ¬ a < nI n := fun z => h ⟨Int32.not_lt.mp h1, z⟩
      have := Int32.not_lt.mp h2
      exact Int32.le_iff_toInt_le.mp this
  · rw [if_pos (ix_in hj hn), if_neg (nI_pos (by omega)), if_neg (nI_ge hj hn)]
theorem hasStall_eq (ho : oB shC b 4 = true) (hn : n < 2 ^ 31) (hv : gI M b 4 = nI n) : f_X4_hasStall M b a = some (if 0 ≤ a ∧ a < nI n then 1 else 0) := by
  unfold f_X4_hasStall
  rw [ho, gd_t]
  exact has0 hn hv
theorem hasBuyer_eq (ho : oB shC b 4 = true) (hn : n < 2 ^ 31) (hv : gI M b 5 = nI n) : f_X4_hasBuyer M b a = some (if 0 ≤ a ∧ a < nI n then 1 else 0) := by
  unfold f_X4_hasBuyer
  rw [ho, gd_t]
  exact has0 hn hv
theorem hasRing_eq (ho : oB shC b 4 = true) (hn : n < 2 ^ 31) (hv : gI M b 3 = nI n) : f_X4_hasRing M b a = some (if 0 ≤ a ∧ a < nI n then 1 else 0) := by
  unfold f_X4_hasRing
  rw [ho, gd_t]
  exact has0 hn hv
theorem hasPlace_eq (ho : oB shC b 4 = true) (hn : n < 2 ^ 31) (hv : gI M b 0 = nI n) : f_X4_hasPlace M b a = some (if 0 ≤ a ∧ a < nI n then 1 else 0) := by
  unfold f_X4_hasPlace
  rw [ho, gd_t]
  exact has0 hn hv
theorem hasMinute_eq (ho : oB shC b 4 = true) (hn : n < 2 ^ 31) (hv : gI M b 1 = nI n) : f_X4_hasMinute M b a = some (if 0 ≤ a ∧ a < nI n then 1 else 0) := by
  unfold f_X4_hasMinute
  rw [ho, gd_t]
  exact has0 hn hv
theorem in0n (hn : n < 2 ^ 31) {v : Int32} (hv : v = nI n) : f_X11_in M a.toInt64 0 (v - 1).toInt64 = some (if 0 ≤ a ∧ a < nI n then 1 else 0) := by
  subst hv
  rw [in32 M a (lo := 0) (hi := (nI n - 1).toInt64) 0 (nI n - 1) rfl rfl]
  simp only [le_pred hn]
theorem isStall_eq (hR : RR M) (hn : n < 2 ^ 31) (hv : gI M 7 3 = nI n) : f_X11_isStall M 0 a = some (if 0 ≤ a ∧ a < nI n then 1 else 0) := by
  unfold f_X11_isStall
  rw [oR, gd_t, rr_17 hR, bd_t, aB_l (i := 3) zR_7 (by decide), gd_t, nx_t]
  show bd (f_X11_in M a.toInt64 0 ((gI M 7 3 - 1).toInt64)) _ = _
  rw [in0n hn hv, bd_t, isZ_ite, gd_t]
theorem isBuyer_eq (hR : RR M) (hn : n < 2 ^ 31) (hv : gI M 7 4 = nI n) : f_X11_isBuyer M 0 a = some (if 0 ≤ a ∧ a < nI n then 1 else 0) := by
  unfold f_X11_isBuyer
  rw [oR, gd_t, rr_17 hR, bd_t, aB_l (i := 4) zR_7 (by decide), gd_t, nx_t]
  show bd (f_X11_in M a.toInt64 0 ((gI M 7 4 - 1).toInt64)) _ = _
  rw [in0n hn hv, bd_t, isZ_ite, gd_t]
theorem isRing_eq (hR : RR M) (hn : n < 2 ^ 31) (hv : gI M 7 2 = nI n) : f_X11_isRing M 0 a = some (if 0 ≤ a ∧ a < nI n then 1 else 0) := by
  unfold f_X11_isRing
  rw [oR, gd_t, rr_17 hR, bd_t, aB_l (i := 2) zR_7 (by decide), gd_t, nx_t]
  show bd (f_X11_in M a.toInt64 0 ((gI M 7 2 - 1).toInt64)) _ = _
  rw [in0n hn hv, bd_t, isZ_ite, gd_t]
theorem isPlace_eq (hR : RR M) (hn : n < 2 ^ 31) (hv : gI M 7 0 = nI n) : f_X11_isPlace M 0 a = some (if 0 ≤ a ∧ a < nI n then 1 else 0) := by
  unfold f_X11_isPlace
  rw [oR, gd_t, rr_17 hR, bd_t, aB_l (i := 0) zR_7 (by decide), gd_t, nx_t]
  show bd (f_X11_in M a.toInt64 0 ((gI M 7 0 - 1).toInt64)) _ = _
  rw [in0n hn hv, bd_t, isZ_ite, gd_t]
theorem isMinute_eq (hR : RR M) (hn : n < 2 ^ 31) (hv : gI M 7 1 = nI n) : f_X11_isMinute M 0 a = some (if 0 ≤ a ∧ a < nI n then 1 else 0) := by
  unfold f_X11_isMinute
  rw [oR, gd_t, rr_17 hR, bd_t, aB_l (i := 1) zR_7 (by decide), gd_t, nx_t]
  show bd (f_X11_in M a.toInt64 0 ((gI M 7 1 - 1).toInt64)) _ = _
  rw [in0n hn hv, bd_t, isZ_ite, gd_t]
theorem of_eq (hR : RR M) {s j : Nat} (hs : s < 40) (hj : j < 7) {x y : Int32} (hx : x = nI s) (hy : y = nI j) : f_X11_of M 0 x y = some (gI M 9 (7 * s + j)) := by
  subst hx
  subst hy
  have e : (7 : Int32) * nI s + nI j = nI (7 * s + j) := by rw [show (7 : Int32) = nI 7 from rfl, pk_mul, nI_add]
  unfold f_X11_of
  rw [oR, gd_t, rr_19 hR, bd_t, e, aB_t (7 * s + j) zR_9 rfl (by omega) (by decide), gd_t, nx_t, nI_clamp (by omega)]
end HS
theorem p_mb {p d : Nat} (h : (p = 3 ∧ d = 42) ∨ (p = 42 ∧ d = 3)) : p ∈ MB ∧ d ∈ MB := by
  rcases h with ⟨rfl, rfl⟩ | ⟨rfl, rfl⟩ <;> decide
theorem eq_stall {p d : Nat} {D : MK} {M1 M2 : Mem} (h : Rel0 p d D M1 M2) (a b : Int32) : ∃ M2' r, f_X10_stall M1 0 a b = some r ∧ f_X11_stall M2 0 a b = some (M2', r) ∧ KeepR M2 M2' := by
  obtain ⟨a1, a2, a3, a4, a5, a6, a7, a8, a9, -⟩ := h
  have hp := (p_mb a5).1
  have hs := mb_sh p hp
  have hk := kM0 a2
  have a9' := a9.keep hk
  have hNs := a6.2.2.1
  have e1 : f_X4_hasStall M1 p a = some (if 0 ≤ a ∧ a < nI (kNs D) then 1 else 0) := hasStall_eq hs.1 (by omega) a8.1.2.2.2.2.1
  have e2 : f_X11_isStall (sI M2 0 0 0) 0 a = some (if 0 ≤ a ∧ a < nI (kNs D) then 1 else 0) := isStall_eq hk.1 (by omega) a9'.1.1.2.2.2.2.1
  unfold f_X10_stall f_X11_stall
  rw [oC_0, gd_t, a3, bd_t, hs.1, gd_t, e1, bd_t, oR, gd_t, nx_t, e2, bd_t, in32 _ b (lo := 0) (hi := 6) 0 6 rfl rfl, bd_t]
  rcases ix_or a (kNs D) (by omega) with ha | ⟨s, hsn, rfl⟩
  · rw [if_neg ha, if_pos rfl, if_pos rfl]
    exact ⟨_, _, rfl, rfl, hk⟩
  rw [if_pos (ix_in hsn (by omega)), if_neg (by decide), if_neg (by decide), mk_7 a1 hp, bd_t, aB_t s hs.2.2.1 rfl (by omega) (by decide), gd_t, nI_clamp (by omega), mk_s a1 hp (by omega), bd_t, hs.2.2.2.2.2.1 s (by omega), gd_t, gd_t, gd_t, gd_t, gd_t, gd_t, gd_t]
  have eb : (0 ≤ b ∧ b ≤ 6) ↔ (0 ≤ b ∧ b < nI 7) := by
    have : b ≤ 6 ↔ b < nI 7 := by
      rw [show (6 : Int32) = nI 7 - 1 from by decide]
      exact le_pred (by decide)
    rw [this]
  simp only [eb]
  rcases ix_or b 7 (by decide) with hb | ⟨j, hj, rfl⟩
  · have h0 : ¬ b = 0 := ne_out hb (k := 0) (by decide) (by decide)
    have h1 : ¬ b = 1 := ne_out hb (k := 1) (by decide) (by decide)
    have h2 : ¬ b = 2 := ne_out hb (k := 2) (by decide) (by decide)
    have h3 : ¬ b = 3 := ne_out hb (k := 3) (by decide) (by decide)
    have h4 : ¬ b = 4 := ne_out hb (k := 4) (by decide) (by decide)
    have h5 : ¬ b = 5 := ne_out hb (k := 5) (by decide) (by decide)
    have h6 : ¬ b = 6 := ne_out hb (k := 6) (by decide) (by decide)
    simp only [hb, h0, h1, h2, h3, h4, h5, h6, ↓reduceIte]
    exact ⟨_, _, rfl, rfl, hk⟩
  · have h10 : ¬ (1 : Int32) = 0 := by decide
    simp only [ix_in hj (show 7 < 2 ^ 31 by decide), h10, and_self, ↓reduceIte, of_eq hk.1 (s := s) (j := j) (by omega) hj rfl rfl, bd_t]
    have ev : gI (sI M2 0 0 0) 9 (7 * s + j) = gI M1 (p + 7 + s) j := by
      rw [a8.2.2.1 s hsn j hj]
      simpa using a9'.1.2.2.1 s hsn j hj
    rw [ev]
    refine ⟨_, gI M1 (p + 7 + s) j, ?_, rfl, hk⟩
    have hj' : j = 0 ∨ j = 1 ∨ j = 2 ∨ j = 3 ∨ j = 4 ∨ j = 5 ∨ j = 6 := by omega
    rcases hj' with rfl | rfl | rfl | rfl | rfl | rfl | rfl <;> simp +decide only [↓reduceIte]
