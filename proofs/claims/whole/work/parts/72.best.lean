/-! BEST, COST, CHOICE, NEEDS -/
section BE
variable {p d : Nat} {D : MK} {M1 M2 : Mem}
/-- the choice on both sides, from an hour that is told -/
theorem bothCh (h : Rel0 p d D M1 M2) (hk : HK M1 p D) (h0 : 0 < kMi D) {b C : Nat} (hb : b < kNb D) (hC : C ≤ 1000000) : ∃ Ma Mb Mc, f_X10_toldHour M1 0 = some (Ma, 84) ∧ Rel0 p d D Ma M2 ∧ f_X0_shop Ma 142 p 85 (nI b) (nI C) = some Mb ∧ f_X11_chooses M2 0 (nI b) (nI C) = some Mc ∧ Rel0 p d D Mb Mc ∧ HourC Mb p D ∧ GA Mb D b (chL D b C (wnS D b (kBy D b 3)) (g0A D b)) ∧ GR Mc D b (chL D b C (wnS D b (kBy D b 3)) (g0A D b)) ∧ IvA D b (chL D b C (wnS D b (kBy D b 3)) (g0A D b)) := by
  obtain ⟨Ma, t1, t2, t3⟩ := told_eq h hk h0
  have ha := h.kc t2
  obtain ⟨Mb, u1, u2, u3, u4⟩ := shop_eq ha t3 hb hC
  obtain ⟨Mc, v1, v2, v3⟩ := chooses_eq hC h.r h.wf h.rm hb
  exact ⟨Ma, Mb, Mc, t1, ha, u1, v1, ha.keep (u2.kc ha) v2, u2.hr t3 h.wf, u3, v3, u4⟩
theorem eq_best {M1 M2 : Mem} (h : Rel M1 M2) (a : Int32) : Same (f_X10_best M1 0 a) (f_X11_best M2 0 a) := by
  obtain ⟨p, d, D, h, hk⟩ := h
  have h' := h.r0
  have hn := h.ba
  unfold f_X10_best f_X11_best
  rw [oC_0, gd_t, h.g1, bd_t, h.oP, gd_t, oR, gd_t, nx_t, gB1 h, bd_t, gB2 h', bd_t]
  rcases ix_or a (kNb D) (by omega) with z | ⟨b, hb, rfl⟩
  · rw [if_neg z, if_pos rfl, if_pos rfl]
    exact same_no h' hk _
  have h0 := (some_p h (Or.inr (Or.inl (by omega)))).1
  have hby := h.wf.2.2.2.2.2.2 b hb
  obtain ⟨Ma, Mb, Mc, t1, ha, u1, v1, h2, t3, g1, g2, -⟩ := bothCh h' hk h0 (C := kBy D b 1) hb (by omega)
  obtain ⟨b1, b2, b3, b4, b5⟩ := by_rd ha hb
  rw [if_pos (ix_in hb (by omega)), if_neg (show ¬ (1 : Int32) = 0 by decide), if_neg (show ¬ (1 : Int32) = 0 by decide), cr_0_8 h.c, bd_t, t1, bd_t]
  dsimp only
  rw [oC_84, gd_t, cr_84_0 ha.c, bd_t, ha.g1, bd_t, h.oP, gd_t, b1, bd_t, b2, gd_t, b3, bd_t, b4, gd_t, zC_g, gd_t, b5 1 (by decide), u1, bd_t, cr_0_8 h2.c, bd_t, zC_g, gd_t, g1.1, rr_20 h'.r, bd_t, m4_1, aB_t (4 * b + 1) zR_10 rfl (by omega) (by decide), gd_t, nx_t, nI_clamp (by omega), show gI (sI M2 0 0 0) 10 (4 * b + 1) = nI (kBy D b 1) by simpa using (h'.rm.1.2.2.2 b hb).1 1 (by decide), v1, bd_t, g2.2.1]
  exact same_at h2 t3 _
theorem eq_cost {M1 M2 : Mem} (h : Rel M1 M2) (a : Int32) : Same (f_X10_cost M1 0 a) (f_X11_cost M2 0 a) := by
  obtain ⟨p, d, D, h, hk⟩ := h
  have h' := h.r0
  have hn := h.ba
  unfold f_X10_cost f_X11_cost
  rw [oC_0, gd_t, h.g1, bd_t, h.oP, gd_t, oR, gd_t, nx_t, gB1 h, bd_t, gB2 h', bd_t]
  rcases ix_or a (kNb D) (by omega) with z | ⟨b, hb, rfl⟩
  · rw [if_neg z, if_pos rfl, if_pos rfl]
    exact same_no h' hk _
  have h0 := (some_p h (Or.inr (Or.inl (by omega)))).1
  have hby := h.wf.2.2.2.2.2.2 b hb
  obtain ⟨Ma, Mb, Mc, t1, ha, u1, v1, h2, t3, g1, g2, -⟩ := bothCh h' hk h0 (C := kBy D b 1) hb (by omega)
  obtain ⟨b1, b2, b3, b4, b5⟩ := by_rd ha hb
  rw [if_pos (ix_in hb (by omega)), if_neg (show ¬ (1 : Int32) = 0 by decide), if_neg (show ¬ (1 : Int32) = 0 by decide), cr_0_8 h.c, bd_t, t1, bd_t]
  dsimp only
  rw [oC_84, gd_t, cr_84_0 ha.c, bd_t, ha.g1, bd_t, h.oP, gd_t, b1, bd_t, b2, gd_t, b3, bd_t, b4, gd_t, zC_g, gd_t, b5 1 (by decide), u1, bd_t, cr_0_8 h2.c, bd_t, zC_g, gd_t, g1.2.1, rr_20 h'.r, bd_t, m4_1, aB_t (4 * b + 1) zR_10 rfl (by omega) (by decide), gd_t, nx_t, nI_clamp (by omega), show gI (sI M2 0 0 0) 10 (4 * b + 1) = nI (kBy D b 1) by simpa using (h'.rm.1.2.2.2 b hb).1 1 (by decide), v1, bd_t, g2.2.2.1]
  exact same_at h2 t3 _
theorem eq_choice {M1 M2 : Mem} (h : Rel M1 M2) (a c : Int32) : Same (f_X10_choice M1 0 a c) (f_X11_choice M2 0 a c) := by
  obtain ⟨p, d, D, h, hk⟩ := h
  have h' := h.r0
  have hn := h.ba
  unfold f_X10_choice f_X11_choice
  rw [oC_0, gd_t, h.g1, bd_t, h.oP, gd_t, oR, gd_t, nx_t, gB1 h, bd_t, gB2 h', bd_t]
  rcases ix_or a (kNb D) (by omega) with z | ⟨b, hb, rfl⟩
  · rw [if_neg z, if_pos rfl, if_pos rfl]
    exact same_no h' hk _
  rw [if_pos (ix_in hb (by omega)), if_neg (show ¬ (1 : Int32) = 0 by decide), if_neg (show ¬ (1 : Int32) = 0 by decide), gM1 h, bd_t, gM2 h', bd_t]
  rcases ix_or c (kMi D) (by omega) with z | ⟨m, hm, rfl⟩
  · rw [if_neg z, if_pos rfl, if_pos rfl]
    exact same_no h' hk _
  have h0 := (some_p h (Or.inr (Or.inl (by omega)))).1
  have hby := h.wf.2.2.2.2.2.2 b hb
  obtain ⟨Ma, Mb, Mc, t1, ha, u1, v1, h2, t3, g1, g2, -⟩ := bothCh h' hk h0 (C := kBy D b 1) hb (by omega)
  obtain ⟨b1, b2, b3, b4, b5⟩ := by_rd ha hb
  rw [if_pos (ix_in hm (by omega)), if_neg (show ¬ (1 : Int32) = 0 by decide), if_neg (show ¬ (1 : Int32) = 0 by decide), cr_0_8 h.c, bd_t, t1, bd_t]
  dsimp only
  rw [oC_84, gd_t, cr_84_0 ha.c, bd_t, ha.g1, bd_t, h.oP, gd_t, b1, bd_t, b2, gd_t, b3, bd_t, b4, gd_t, zC_g, gd_t, b5 1 (by decide), u1, bd_t, cr_0_8 h2.c, bd_t, zC_g, gd_t, cr_142_2 h2.c, bd_t, aB_t m zC_143 rfl (by omega) (by decide), gd_t, nI_clamp (n := m) (by omega), g1.2.2.1 m hm, rr_20 h'.r, bd_t, m4_1, aB_t (4 * b + 1) zR_10 rfl (by omega) (by decide), gd_t, nx_t, nI_clamp (n := 4 * b + 1) (by omega), show gI (sI M2 0 0 0) 10 (4 * b + 1) = nI (kBy D b 1) by simpa using (h'.rm.1.2.2.2 b hb).1 1 (by decide), v1, bd_t, rr_50 h2.r, bd_t, aB_t m zR_32 rfl (by omega) (by decide), gd_t, g2.2.2.2.1 m (by omega)]
  exact same_at h2 t3 _
theorem eq_needs {M1 M2 : Mem} (h : Rel M1 M2) (a : Int32) : Same (f_X10_needs M1 0 a) (f_X11_needs M2 0 a) := by
  obtain ⟨p, d, D, h, hk⟩ := h
  have h' := h.r0
  have hn := h.ba
  unfold f_X10_needs f_X11_needs
  rw [oC_0, gd_t, h.g1, bd_t, h.oP, gd_t, oR, gd_t, nx_t, gB1 h, bd_t, gB2 h', bd_t]
  rcases ix_or a (kNb D) (by omega) with z | ⟨b, hb, rfl⟩
  · rw [if_neg z, if_pos rfl, if_pos rfl]
    exact same_no h' hk _
  have h0 := (some_p h (Or.inr (Or.inl (by omega)))).1
  have hby := h.wf.2.2.2.2.2.2 b hb
  obtain ⟨Ma, Mb, Mc, t1, ha, u1, v1, h2, t3, g1, g2, iv⟩ := bothCh h' hk h0 (C := 1000000) hb (by omega)
  obtain ⟨b1, b2, b3, b4, b5⟩ := by_rd h2 hb
  have hwl := wn_le h.wf hb (kBy D b 3) (Nat.le_refl _)
  have u1' : f_X0_shop Ma 142 p 85 (nI b) 1000000 = some Mb := u1
  have v1' : f_X11_chooses (sI M2 0 0 0) 0 (nI b) 1000000 = some Mc := v1
  generalize chL D b 1000000 (wnS D b (kBy D b 3)) (g0A D b) = G at *
  have elk : ∀ n, lkS (fun _ _ w => G 1 w 0) b n = lkA G n := by
    intro n
    induction n with
    | zero => rfl
    | succ n ih =>
      unfold lkS lkA
      rw [ih]
  have e2 := lackOfR_eq (H := fun _ _ w => G 1 w 0) h2.r (b := b) (by omega) hby.2.2.2.1 g2.2.2.2.2.2.1
  rw [elk] at e2
  have hs := iv.2.2.1
  rw [if_pos (ix_in hb (by omega)), if_neg (show ¬ (1 : Int32) = 0 by decide), if_neg (show ¬ (1 : Int32) = 0 by decide), cr_0_8 h.c, bd_t, t1, bd_t]
  dsimp only
  rw [oC_84, gd_t, cr_84_0 ha.c, bd_t, zC_g, gd_t, u1', bd_t, cr_0_8 h2.c, bd_t, zC_g, gd_t, h2.g1, bd_t, h.oP, gd_t, b1, bd_t, b2, gd_t, b3, bd_t, b4, gd_t, wanted_eq h2.mb h2.c h2.wf h2.cm hb, bd_t, g1.1, g1.2.1, v1', bd_t, e2, bd_t, g2.2.2.1]
  by_cases q : lkA G (kBy D b 3) = 0
  · rw [if_pos (by rw [show G 4 0 0 = wnS D b (kBy D b 3) by omega]), if_pos (by rw [q]; rfl)]
    exact same_at h2 t3 _
  · rw [if_neg (fun z => by
      have := (nI_eq (by omega) (by omega)).mp z
      omega), if_neg (nI_ne0 (by omega) (by omega))]
    exact same_at h2 t3 _
end BE
