/-! A LINE OF WANTS -/
section L7
variable {L : Nat} {B : Nat → Int32} {d n : Nat} {D : MK} {M1 M2 M1' M2' : Mem}
def wnD (D : MK) (b0 w : Nat) (f : Nat → Nat) : MK := fun a b c x => if a = 5 ∧ b = b0 ∧ c = w then f x else if a = 4 ∧ b = b0 ∧ c = 3 ∧ x = 0 then w + 1 else if a = 0 ∧ b = 2 then D 0 2 0 0 + 1 else D a b c x
theorem kWs_none {D : MK} {b g : Nat} : ∀ n w, kWs D b g n w = none → ∀ v, w ≤ v → v < w + n → kWt D b v 0 ≠ g
  | 0, w, _, v, h1, h2 => by omega
  | n + 1, w, h, v, h1, h2 => by
    rw [kWs] at h
    by_cases c : kWt D b w 0 = g
    · rw [if_pos c] at h
      cases h
    · rw [if_neg c] at h
      by_cases e : v = w
      · rw [e]; exact c
      · exact kWs_none n (w + 1) h v (by omega) (by omega)
theorem MkR.want (h : MkR d D M1 M2) (hl : 0 < kLn D) (hll : kLn D < 2000) {b0 w : Nat} (hb0 : b0 < kNb D) (hw : w = kBy D b0 3) (hw3 : w < 3) {f : Nat → Nat} (hf : f 0 ≤ 5 ∧ 1 ≤ f 1 ∧ f 1 ≤ 9 ∧ f 2 ≤ 99) (hno : kWo D b0 (f 0) = none)
    (i1 : ∀ a k, (inB d a ∨ (a = 1 ∧ k = 8)) → ¬ ((a = d + 16 + 4 * b0 ∨ a = d + 17 + 4 * b0 ∨ a = d + 18 + 4 * b0) ∧ k = w) → ¬ (a = d + 15 + 4 * b0 ∧ k = 3) → ¬ (a = d ∧ k = 2) → gI M1' a k = gI M1 a k) (l1 : ∀ a k, inB d a → gL M1' a k = gL M1 a k) (x0 : gI M1' (d + 16 + 4 * b0) w = nI (f 0)) (x1 : gI M1' (d + 17 + 4 * b0) w = nI (f 1)) (x2 : gI M1' (d + 18 + 4 * b0) w = nI (f 2)) (x3 : gI M1' (d + 15 + 4 * b0) 3 = nI (w + 1)) (x4 : gI M1' d 2 = nI (kLn D + 1))
    (i2 : ∀ a k, 6 ≤ a → a ≤ 12 → ¬ (a = 11 ∧ 9 * (24 + b0) + 3 * w ≤ k ∧ k < 9 * (24 + b0) + 3 * w + 3) → ¬ (a = 10 ∧ k = 4 * (24 + b0) + 3) → ¬ (a = 6 ∧ k = 4) → gI M2' a k = gI M2 a k) (y0 : ∀ j, j < 3 → gI M2' 11 (9 * (24 + b0) + 3 * w + j) = nI (f j)) (y3 : gI M2' 10 (4 * (24 + b0) + 3) = nI (w + 1)) (y4 : gI M2' 6 4 = nI (kLn D + 1)) (hd : d = 3 ∨ d = 42) : MkR d (wnD D b0 w f) M1' M2' := by
  obtain ⟨hW, hSt, hC, hR, ⟨m, sr, sf, st, g1, g2, g3, g4, g5⟩, g6⟩ := h
  obtain ⟨w1, w2, w3, w4, w5, w6, w7⟩ := hW
  have w1' : 1 ≤ kLn D ∧ kLn D ≤ 2000 ∧ 2 ≤ kP D ∧ kP D ≤ 12 ∧ 1 ≤ kMi D ∧ kMi D ≤ 60 := by
    rcases w1 with z | z
    · omega
    · exact z
  have eW : ∀ b v j, kWt (wnD D b0 w f) b v j = if b = b0 ∧ v = w then f j else kWt D b v j := fun b v j => by
    unfold kWt wnD
    by_cases c : b = b0 ∧ v = w
    · rw [if_pos ⟨rfl, c⟩, if_pos c]
    · rw [if_neg (fun z => c z.2), if_neg (by omega), if_neg (by omega), if_neg c]
  have eB : ∀ b j, kBy (wnD D b0 w f) b j = if b = b0 ∧ j = 3 then w + 1 else kBy D b j := fun b j => by
    unfold kBy wnD
    by_cases c : b = b0 ∧ j = 3
    · rw [if_neg (by omega), if_pos ⟨rfl, c.1, c.2, rfl⟩, if_pos c]
    · rw [if_neg (by omega), if_neg (fun z => c ⟨z.2.1, z.2.2.1⟩), if_neg (by omega), if_neg c]
  have hnew : ∀ v, v < w → kWt D b0 v 0 ≠ f 0 := fun v hv => kWs_none _ _ hno v (Nat.zero_le _) (by omega)
  refine ⟨⟨Or.inr ⟨(by show 1 ≤ kLn D + 1; omega), (by show kLn D + 1 ≤ 2000; omega), w1'.2.2⟩, w2, w3, w4, w5, w6, fun b hb => ?_⟩, hSt, ⟨⟨?_, ?_, x4, ?_, ?_, ?_⟩, fun r hr => ?_, fun s hs j hj => ?_, fun i hi => ⟨fun j hj => ?_, fun v hv => ?_⟩⟩, ⟨⟨?_, ?_, y4, ?_, ?_, ?_⟩, fun r hr => ?_, fun s hs j hj => ?_, fun i hi => ⟨fun j hj => ?_, fun v hv j hj => ?_⟩⟩, ⟨m, sr, sf, st, g1, ?_, ?_, fun i hi => ?_, g5⟩, g6⟩
  · have hb' : b < kNb D := hb
    have q := w7 b hb'
    simp only [eB, eW]
    by_cases c : b = b0
    · subst c
      simp only [true_and, show ¬ (0 : Nat) = 3 by decide, show ¬ (1 : Nat) = 3 by decide, show ¬ (2 : Nat) = 3 by decide, if_false, if_true]
      refine ⟨q.1, q.2.1, q.2.2.1, by omega, fun v hv => ?_, fun v u hv hu => ?_⟩
      · by_cases e : v = w
        · simp only [if_pos e]
          exact hf
        · simp only [if_neg e]
          exact q.2.2.2.2.1 v (by omega)
      · by_cases e : v = w
        · by_cases e2 : u = w
          · omega
          · rw [if_pos e, if_neg e2]
            exact fun z => absurd z.symm (hnew u (by omega))
        · by_cases e2 : u = w
          · rw [if_neg e, if_pos e2]
            exact fun z => absurd z (hnew v (by omega))
          · rw [if_neg e, if_neg e2]
            exact q.2.2.2.2.2 v u (by omega) (by omega)
    · simp only [c, false_and, if_false]
      exact q
  · rw [i1 _ _ (Or.inl (by unfold inB; omega)) (by omega) (by omega) (by omega)]; exact hC.1.1
  · rw [i1 _ _ (Or.inl (by unfold inB; omega)) (by omega) (by omega) (by omega)]; exact hC.1.2.1
  · rw [i1 _ _ (Or.inl (by unfold inB; omega)) (by omega) (by omega) (by omega)]; exact hC.1.2.2.2.1
  · rw [i1 _ _ (Or.inl (by unfold inB; omega)) (by omega) (by omega) (by omega)]; exact hC.1.2.2.2.2.1
  · rw [i1 _ _ (Or.inl (by unfold inB; omega)) (by omega) (by omega) (by omega)]; exact hC.1.2.2.2.2.2
  · have hr' : r < kNr D := hr
    rw [i1 _ _ (Or.inl (by unfold inB; omega)) (by omega) (by omega) (by omega), i1 _ _ (Or.inl (by unfold inB; omega)) (by omega) (by omega) (by omega), l1 _ _ (by unfold inB; omega)]
    exact hC.2.1 r hr'
  · have hs' : s < kNs D := hs
    rw [i1 _ _ (Or.inl (by unfold inB; omega)) (by omega) (by omega) (by omega)]
    exact hC.2.2.1 s hs' j hj
  · have hi' : i < kNb D := hi
    rw [eB]
    by_cases c : i = b0 ∧ j = 3
    · rw [if_pos c, c.1, c.2]
      exact x3
    · rw [if_neg c, i1 _ _ (Or.inl (by unfold inB; omega)) (by omega) (by omega) (by omega)]
      exact (hC.2.2.2 i hi').1 j hj
  · have hi' : i < kNb D := hi
    rw [eB] at hv
    rw [eW, eW, eW]
    by_cases c : i = b0 ∧ v = w
    · rw [if_pos c, if_pos c, if_pos c, c.1, c.2]
      exact ⟨x0, x1, x2⟩
    · have hv' : v < kBy D i 3 := by
        by_cases c2 : i = b0
        · rw [if_pos ⟨c2, rfl⟩] at hv
          rw [c2, ← hw]
          omega
        · rw [if_neg (fun z => c2 z.1)] at hv
          exact hv
      rw [if_neg c, if_neg c, if_neg c, i1 _ _ (Or.inl (by unfold inB; omega)) (by omega) (by omega) (by omega), i1 _ _ (Or.inl (by unfold inB; omega)) (by omega) (by omega) (by omega), i1 _ _ (Or.inl (by unfold inB; omega)) (by omega) (by omega) (by omega)]
      exact (hC.2.2.2 i hi').2 v hv'
  · rw [i2 _ _ (by omega) (by omega) (by omega) (by omega) (by omega)]; exact hR.1.1
  · rw [i2 _ _ (by omega) (by omega) (by omega) (by omega) (by omega)]; exact hR.1.2.1
  · rw [i2 _ _ (by omega) (by omega) (by omega) (by omega) (by omega)]; exact hR.1.2.2.2.1
  · rw [i2 _ _ (by omega) (by omega) (by omega) (by omega) (by omega)]; exact hR.1.2.2.2.2.1
  · rw [i2 _ _ (by omega) (by omega) (by omega) (by omega) (by omega)]; exact hR.1.2.2.2.2.2
  · rw [i2 _ _ (by omega) (by omega) (by omega) (by omega) (by omega), i2 _ _ (by omega) (by omega) (by omega) (by omega) (by omega)]
    exact hR.2.1 r hr
  · rw [i2 _ _ (by omega) (by omega) (by omega) (by omega) (by omega)]; exact hR.2.2.1 s hs j hj
  · have hi' : i < kNb D := hi
    rw [eB]
    by_cases c : i = b0 ∧ j = 3
    · rw [if_pos c, c.1, c.2]
      exact y3
    · rw [if_neg c, i2 _ _ (by omega) (by omega) (by omega) (by omega) (by omega)]
      exact (hR.2.2.2 i hi').1 j hj
  · have hi' : i < kNb D := hi
    have q := w7 i hi'
    rw [eB] at hv
    rw [eW]
    by_cases c : i = b0 ∧ v = w
    · rw [if_pos c, c.1, c.2]
      exact y0 j hj
    · have hv' : v < kBy D i 3 := by
        by_cases c2 : i = b0
        · rw [if_pos ⟨c2, rfl⟩] at hv
          rw [c2, ← hw]
          omega
        · rw [if_neg (fun z => c2 z.1)] at hv
          exact hv
      rw [if_neg c, i2 _ _ (by omega) (by omega) (by omega) (by omega) (by omega)]
      exact (hR.2.2.2 i hi').2 v hv' j hj
  · rw [i1 _ _ (Or.inr ⟨rfl, rfl⟩) (by omega) (by omega) (by omega)]; exact g2
  · rw [i2 _ _ (by omega) (by omega) (by omega) (by omega) (by omega)]; exact g3
  · rw [i2 _ _ (by omega) (by omega) (by omega) (by omega) (by omega), i2 _ _ (by omega) (by omega) (by omega) (by omega) (by omega), i2 _ _ (by omega) (by omega) (by omega) (by omega) (by omega)]
    exact g4 i hi
theorem w82_pb {b0 w : Nat} {v : Int32} (hd : d = 3 ∨ d = 42) (hb0 : b0 < 6) (hw : w < 3) (h : PB L B M1 M2) (hx : gI M1 (d + 15 + 4 * b0) 3 = nI w) : ∃ M', f_X6_readWants_82 M1 1 (d + 15 + 4 * b0) v = some M' ∧ KpC d M1 M' ∧ PB L B M' M2 := by
  have hdm : d ∈ MB := by rcases hd with rfl | rfl <;> decide
  have bs := (mb_sh d hdm).2.2.2.2.2.2 b0 hb0
  obtain ⟨M3, a1, a2, a3⟩ := h.next
  have c3 : gI M3 (d + 15 + 4 * b0) 3 = nI w := by rw [a2.2 _ _ (by omega), hx]
  have p4 : PB L B (sI M3 (d + 16 + 4 * b0) w v) M2 := a3.w1 (by omega)
  obtain ⟨M5, b1, b2, b3⟩ := p4.wordc (i := 13) (by decide)
  obtain ⟨M6, v6, d1, d2, d3⟩ := b3.numc 1 9
  have p7 : PB L B (sI M6 (d + 17 + 4 * b0) w v6) M2 := d3.w1 (by omega)
  obtain ⟨M8, e1, e2, e3⟩ := p7.wordc (i := 23) (by decide)
  obtain ⟨M9, v9, f1, f2, f3⟩ := e3.numc 0 99
  refine ⟨sI (sI M9 (d + 18 + 4 * b0) w v9) (d + 15 + 4 * b0) 3 (gI (sI M9 (d + 18 + 4 * b0) w v9) (d + 15 + 4 * b0) 3 + 1), ?_, ?_, (f3.w1 (by omega)).w1 (by omega)⟩
  · unfold f_X6_readWants_82
    rw [oC_1, gd_t, a1, bd_t, bs.1, gd_t, mk_b4 a3.1.1 hdm hb0, bd_t, c3, aB_t w bs.2.1 rfl hw (by decide), gd_t, nx_t, nI_clamp (by omega), b1, bd_t, mk_b5 b3.1.1 hdm hb0, bd_t, d1, bd_t, aB_t w bs.2.2.1 rfl hw (by decide), gd_t, nx_t, e1, bd_t, mk_b6 e3.1.1 hdm hb0, bd_t, f1, bd_t, aB_t w bs.2.2.2 rfl hw (by decide), gd_t, nx_t, nx_t]
  · have i1 : ∀ j, j ≤ 3 → inB d (d + 15 + 4 * b0 + j) := fun j hj => by unfold inB; omega
    have j1 : inB d (d + 16 + 4 * b0) := by unfold inB; omega
    have j2 : inB d (d + 17 + 4 * b0) := by unfold inB; omega
    have j3 : inB d (d + 18 + 4 * b0) := by unfold inB; omega
    have j0 : inB d (d + 15 + 4 * b0) := by unfold inB; omega
    exact (((((((((KpC.T a2).I (Or.inl j1)).tr (KpC.T b2)).tr (KpC.T d2)).I (Or.inl j2)).tr (KpC.T e2)).tr (KpC.T f2)).I (Or.inl j3)).I (Or.inl j0))
theorem m93 (a w : Nat) : (9 : Int32) * nI a + 3 * nI w = nI (9 * a + 3 * w) := by
  rw [show (9 : Int32) = nI 9 from rfl, show (3 : Int32) = nI 3 from rfl, pk_mul, pk_mul, nI_add]
/-- the reference's want, behind its good -/
theorem w147_pb {b0 w : Nat} (hb0 : b0 < 6) (hw : w < 3) (h : PB L B M1 M2) {v : Int32} : ∃ M', (gd (aB shR 11 0 ((9 * nI (24 + b0)) + (3 * nI w))) <| nx (sI M2 11 (((9 * nI (24 + b0)) + (3 * nI w)) : Int32).toNatClampNeg v) fun M5 => bd (gR M5 0 21) fun r6 => bd (f_X11_number_ M5 0 234466237 1 9) fun u7 => gd (aB shR r6 0 (((9 * nI (24 + b0)) + (3 * nI w)) + 1)) <| nx (sI u7.1 r6 ((((9 * nI (24 + b0)) + (3 * nI w)) + 1) : Int32).toNatClampNeg u7.2) fun M9 => bd (gR M9 0 21) fun r10 => bd (f_X11_number_ M9 0 6564179 0 99) fun u11 => gd (aB shR r10 0 (((9 * nI (24 + b0)) + (3 * nI w)) + 2)) <| nx (sI u11.1 r10 ((((9 * nI (24 + b0)) + (3 * nI w)) + 2) : Int32).toNatClampNeg u11.2) fun M13 => bd (gR M13 0 20) fun r14 => gd (aB shR r14 0 ((4 * nI (24 + b0)) + 3)) <| nx ((gI M13 r14 (((4 * nI (24 + b0)) + 3) : Int32).toNatClampNeg)) fun v16 => nx (sI M13 r14 (((4 * nI (24 + b0)) + 3) : Int32).toNatClampNeg (v16 + 1)) fun M17 => some M17) = some M' ∧ KpR M2 M' ∧ PB L B M1 M' := by
  have p1 : PB L B M1 (sI M2 11 (9 * (24 + b0) + 3 * w) v) := h.w2 (by decide)
  have p2 : PB L B M1 (sI (sI M2 11 (9 * (24 + b0) + 3 * w) v) 11 (9 * (24 + b0) + 3 * w + 1) 1) := p1.w2 (by decide)
  have p3 : PB L B M1 (sI (sI (sI M2 11 (9 * (24 + b0) + 3 * w) v) 11 (9 * (24 + b0) + 3 * w + 1) 1) 11 (9 * (24 + b0) + 3 * w + 2) 0) := p2.w2 (by decide)
  refine ⟨sI (sI (sI (sI M2 11 (9 * (24 + b0) + 3 * w) v) 11 (9 * (24 + b0) + 3 * w + 1) 1) 11 (9 * (24 + b0) + 3 * w + 2) 0) 10 (4 * (24 + b0) + 3) (gI (sI (sI (sI M2 11 (9 * (24 + b0) + 3 * w) v) 11 (9 * (24 + b0) + 3 * w + 1) 1) 11 (9 * (24 + b0) + 3 * w + 2) 0) 10 (4 * (24 + b0) + 3) + 1), ?_, (((KpR.rf.I (sl_11 (by omega))).I (sl_11 (by omega))).I (sl_11 (by omega))).I (sl_10 (by omega)), p3.w2 (by decide)⟩
  rw [m93, aB_t (9 * (24 + b0) + 3 * w) zR_11 rfl (by omega) (by decide), gd_t, nx_t, nI_clamp (by omega), rr_21 p1.1.2.1, bd_t, p1.num_, bd_t]
  dsimp only
  rw [show nI (9 * (24 + b0) + 3 * w) + 1 = nI (9 * (24 + b0) + 3 * w + 1) from nI_add _ 1, aB_t (9 * (24 + b0) + 3 * w + 1) zR_11 rfl (by omega) (by decide), gd_t, nx_t, nI_clamp (by omega), rr_21 p2.1.2.1, bd_t, p2.num_, bd_t]
  dsimp only
  rw [show nI (9 * (24 + b0) + 3 * w) + 2 = nI (9 * (24 + b0) + 3 * w + 2) from nI_add _ 2, aB_t (9 * (24 + b0) + 3 * w + 2) zR_11 rfl (by omega) (by decide), gd_t, nx_t, nI_clamp (by omega), rr_20 p3.1.2.1, bd_t, m4_3, aB_t (4 * (24 + b0) + 3) zR_10 rfl (by omega) (by decide), gd_t, nx_t, nx_t, nI_clamp (by omega)]
theorem w109 {b0 g w : Nat} (hD : MkR d D M1 M2) (hb0 : b0 < kNb D) (hw : w = kBy D b0 3) (hg : g < 6) {a e t : Nat} (hd : d = 3 ∨ d = 42) : ∀ m k Mb (A : Mem), k ≤ w → w < m + k → OnN kN M2 Mb → gI Mb 0 10 = nI g → ((PG L B A Mb a e t ∧ ∀ i, i < k → kWt D b0 i 0 ≠ g) ∨ PB L B A Mb) → (PG L B A Mb a e t → kWo D b0 g = none → f_X11_wantLine_109 m Mb 0 (nI (24 + b0)) (nI w) (nI k) = f_X11_wantLine_147 Mb 0 (nI (24 + b0)) (nI w)) ∧ (¬ kWo D b0 g = none → (∀ i, i < k → kWt D b0 i 0 ≠ g) ∨ PB L B A Mb → ∃ A' Mc, f_X11_wantLine_109 m Mb 0 (nI (24 + b0)) (nI w) (nI k) = f_X11_wantLine_147 Mc 0 (nI (24 + b0)) (nI w) ∧ OnN kN Mb Mc ∧ OnT kC A A' ∧ ((PG L B A Mb a e t ∧ f_X6_refuse A 1 2 = some A') ∨ A' = A) ∧ PB L B A' Mc) := by
  have hW := hD.1
  have hN := hW.n
  have hby := hW.2.2.2.2.2.2 b0 hb0
  have hR4 := hD.2.2.2.1
  intro m
  induction m with
  | zero => intro k Mb A h1 h2; omega
  | succ m ih =>
    intro k Mb A h1 h2 hO hv hs
    have hRR : RR Mb := hs.elim (fun z => z.1.1.2.1) (fun z => z.1.2.1)
    have unf : f_X11_wantLine_109 (m + 1) Mb 0 (nI (24 + b0)) (nI w) (nI k) = s_X11_wantLine_109 (f_X11_wantLine_109 m) Mb 0 (nI (24 + b0)) (nI w) (nI k) := rfl
    have stp : s_X11_wantLine_109 (f_X11_wantLine_109 m) Mb 0 (nI (24 + b0)) (nI w) (nI k) = if w ≤ k then f_X11_wantLine_147 Mb 0 (nI (24 + b0)) (nI w) else if kWt D b0 k 0 = g then bd (f_X11_fails Mb 0 2) fun u5 => f_X11_wantLine_109 m u5 0 (nI (24 + b0)) (nI w) (nI (k + 1)) else f_X11_wantLine_109 m Mb 0 (nI (24 + b0)) (nI w) (nI (k + 1)) := by
      unfold s_X11_wantLine_109
      by_cases c : w ≤ k
      · rw [if_pos (nI_le c (by omega)), if_pos c]
      · have hk : k < kBy D b0 3 := by omega
        have ew : gI Mb 11 (9 * (24 + b0) + 3 * k) = nI (kWt D b0 k 0) := by
          rw [hO.2.1 _ _ (by omega)]
          exact (hR4.2.2.2 b0 hb0).2 k hk 0 (by decide)
        have hwt := hby.2.2.2.2.1 k hk
        rw [if_neg (nI_ge (by omega) (by omega)), if_neg c, oR, gd_t, rr_21 hRR, bd_t, m93, aB_t (9 * (24 + b0) + 3 * k) zR_11 rfl (by omega) (by decide), gd_t, nx_t, nI_clamp (by omega), ew, hv, nI_1]
        by_cases c2 : kWt D b0 k 0 = g
        · rw [if_pos (by rw [c2]), if_pos c2]
        · rw [if_neg (fun z => c2 ((nI_eq (by omega) (by omega)).mp z)), if_neg c2]
    rw [unf, stp]
    by_cases c : w ≤ k
    · rw [if_pos c]
      refine ⟨fun _ _ => rfl, fun hno hc => ?_⟩
      rcases hc with hc | hB
      · exfalso
        apply hno
        have : ∀ n' u, u + n' = w → (∀ v, u ≤ v → v < w → kWt D b0 v 0 ≠ g) → kWs D b0 g n' u = none := by
          intro n'
          induction n' with
          | zero => intro u _ _; rfl
          | succ n' ih3 =>
            intro u hu hz
            rw [kWs, if_neg (hz u (Nat.le_refl _) (by omega))]
            exact ih3 (u + 1) (by omega) (fun v z1 z2 => hz v (by omega) z2)
        exact this (kBy D b0 3) 0 (by omega) (fun v _ hv2 => hc v (by omega))
      · exact ⟨A, Mb, rfl, OnN.rf, OnT.rf, Or.inr rfl, hB⟩
    rw [if_neg c]
    by_cases c2 : kWt D b0 k 0 = g
    · rw [if_pos c2]
      have hex : ¬ kWo D b0 g = none := fun z => kWs_none _ _ z k (Nat.zero_le _) (by omega) c2
      refine ⟨fun _ z => absurd z hex, fun _ hc => ?_⟩
      rcases hs with ⟨hG, hz⟩ | hB
      · obtain ⟨A', Mc, p1, p2, p3, p4, p5⟩ := hG.fail (k := 2) (by decide) (by decide)
        have p2' : f_X11_fails Mb 0 2 = some Mc := p2
        have hv' : gI Mc 0 10 = nI g := by
          have : f_X11_fails Mb 0 2 = some (sI (sI Mb 0 12 2) 0 13 (gI (sI Mb 0 12 2) 0 9)) := by
            unfold f_X11_fails
            rw [oR, gd_t, if_pos hG.2.2.2.1, nx_t, nx_t]
          rw [this] at p2'
          cases p2'
          rw [gI_sI, if_neg (by omega), gI_sI, if_neg (by omega), hv]
        obtain ⟨A'', Md, q1, q2, q3, q4, q5⟩ := (ih (k + 1) Mc A' (by omega) (by omega) (hO.tr p4) hv' (Or.inr p5)).2 hex (Or.inr p5)
        rw [p2', bd_t]
        have eA : A'' = A' := q4.elim (fun z => absurd z.1.2.2.2.1 p5.n) id
        subst eA
        exact ⟨A'', Md, q1, p4.tr q2, p3, Or.inl ⟨hG, p1⟩, q5⟩
      · obtain ⟨A'', Md, q1, q2, q3, q4, q5⟩ := (ih (k + 1) Mb A (by omega) (by omega) hO hv (Or.inr hB)).2 hex (Or.inr hB)
        rw [hB.fails, bd_t]
        exact ⟨A'', Md, q1, q2, q3, q4, q5⟩
    · rw [if_neg c2]
      have hs' : (PG L B A Mb a e t ∧ ∀ i, i < k + 1 → kWt D b0 i 0 ≠ g) ∨ PB L B A Mb := hs.imp (fun z => ⟨z.1, fun i hi => by
        by_cases q : i = k
        · rw [q]; exact c2
        · exact z.2 i (by omega)⟩) id
      obtain ⟨i1, i2⟩ := ih (k + 1) Mb A (by omega) (by omega) hO hv hs'
      refine ⟨i1, fun z hc => i2 z ?_⟩
      rcases hs' with y | y
      · exact Or.inl y.2
      · exact Or.inr y
theorem wants_line {a e t : Nat} (hd : d = 3 ∨ d = 42) (h : MkR d D M1 M2) (hl : 0 < kLn D) (hll : kLn D < 2000) (ha : n ≤ a) (hG : PG L B M1 M2 a e t) : ∃ M1' M2', f_X6_readWants M1 1 d = some M1' ∧ f_X11_line_72 M2 0 9 = some M2' ∧ LnE L B n d (kLn D) M1 M2 M1' M2' := by
  have hdm : d ∈ MB := by rcases hd with rfl | rfl <;> decide
  have ms := mb_sh d hdm
  have hW := h.1
  have hN := hW.n
  have hC := h.2.2.1
  have hCh := h.2.2.1.1
  have hRh := h.2.2.2.1.h4
  obtain ⟨Ma, Mb, a', e', t', a1, a2, a3, a4, a5, a6⟩ := hG.next
  have ha' : n ≤ a' := by have := hG.2.1.1; omega
  have oMa : OnT kC M1 Ma := a3.mono (fun _ => tkC_k)
  have oMb : OnN kN M2 Mb := a4.mono (fun _ => tkR_k)
  have cNb : gI Ma d 5 = nI (kNb D) := by rw [oMa.2 _ _ (by omega), hCh.2.2.2.2.2]
  have vNb : gI Mb 7 28 = nI (kNb D) := by rw [oMb.2.1 _ _ (by omega), hRh.2.2.2.2.2]
  have hR6 := a6.1.2.1
  have hrf : ∀ {M2'}, f_X11_wantLine Mb 0 = some M2' → f_X11_line_72 M2 0 9 = some M2' := fun {M2'} hh => by
    rw [l72_9]
    unfold f_X11_line_146
    rw [oR, gd_t, if_pos hG.2.2.2.1, a2, bd_t, if_neg (show ¬ (9 : Int32) = 2 by decide), if_neg (show ¬ (9 : Int32) = 3 by decide), if_neg (show ¬ (9 : Int32) = 4 by decide), if_neg (show ¬ (9 : Int32) = 5 by decide), hh, bd_t]
  unfold f_X6_readWants
  rw [oC_1, gd_t, a1, bd_t, ms.1, gd_t, cNb]
  have r52b : ∀ {Z Z' v}, RR Z → gI Z 7 28 = nI (kNb D) → f_X11_number Z 0 0 (nI (kNb D) - 1) = some (Z', v) → ¬ gI Z' 0 12 = 0 → f_X11_wantLine_52 Z 0 = some Z' := fun {Z Z' v} hr hz hn hb => by
    unfold f_X11_wantLine_52
    rw [oR, gd_t, hasRead_eq hr (j := 4) (x := 4) (by decide) rfl, bd_t, hz, hn, bd_t]
    dsimp only
    rw [if_neg hb]
  rcases a6.val (l := 0) (H := kNb D) (hi := nI (kNb D) - 1) rfl (by omega) (by omega) with ⟨x, -, x1, x2, x3, x4, x5, x6⟩ | ⟨k, Mc, Md, v1, v2, x1, x2, x3, x4, x5, x6, x7⟩
  case' inr =>
    -- no such buyer
    have x2' : f_X6_numberHere Ma 1 0 (nI (kNb D) - 1) = some (Mc, v1) := x2
    refine ⟨Mc, Md, ?_, hrf ?_, LnE.pb (oMa.tr x4) (oMb.tr x5) x6⟩
    · rw [x2', bd_t]
      dsimp only
      rw [if_neg x6.c]
    · have e52 := r52b hR6 vNb x3 x6.n
      unfold f_X11_wantLine
      rw [oR, gd_t, if_pos a6.2.2.2.1, hasRead_eq hR6 (j := 4) (x := 4) (by decide) rfl, bd_t, vNb, e52]
      by_cases c : gI Mb 0 8 = 2
      · obtain ⟨y, y1, y2, y3⟩ := x7 c
        rw [if_pos c, y1, if_pos (nI_le (by omega) (by omega))]
      · rw [if_neg c]
  have hby := hW.2.2.2.2.2.2 x x1
  have bs := ms.2.2.2.2.2.2 x (by omega)
  have x3' : f_X6_numberHere Ma 1 0 (nI (kNb D) - 1) = some (Ma, nI x) := x3
  have cW : gI Ma (d + 15 + 4 * x) 3 = nI (kBy D x 3) := by rw [oMa.2 _ _ (by omega)]; exact (hC.2.2.2 x x1).1 3 (by decide)
  have vW : ∀ {Z}, OnN kN M2 Z → gI Z 10 (4 * (24 + x) + 3) = nI (kBy D x 3) := fun {Z} o => by
    rw [o.2.1 _ _ (by omega)]
    exact (h.2.2.2.1.2.2.2 x x1).1 3 (by decide)
  have m424 : (4 : Int32) * (24 + nI x) + 3 = nI (4 * (24 + x) + 3) := by rw [show (24 : Int32) + nI x = nI (24 + x) from nI_add 24 x, m4_3]
  have e24 : (24 : Int32) + nI x = nI (24 + x) := nI_add 24 x
  have hwl : f_X11_wantLine Mb 0 = if kBy D x 3 = 3 then bd (f_X11_fails Mb 0 3) fun u6 => f_X11_wantLine_52 u6 0 else f_X11_wantLine_52 Mb 0 := by
    unfold f_X11_wantLine
    rw [oR, gd_t, if_pos a6.2.2.2.1, if_pos x4, hasRead_eq hR6 (j := 4) (x := 4) (by decide) rfl, bd_t, vNb, x5, if_neg (nI_ge x1 (by omega)), rr_20 hR6, bd_t, m424, aB_t (4 * (24 + x) + 3) zR_10 rfl (by omega) (by decide), gd_t, nx_t, nI_clamp (by omega), vW oMb]
    by_cases c : kBy D x 3 = 3
    · rw [if_pos (by rw [c]; rfl), if_pos c]
    · rw [if_neg (nI_neL (x := 3) 3 rfl c (by omega) (by decide)), if_neg c]
  rw [x3', bd_t]
  dsimp only
  rw [if_pos a6.2.2.1, mk_8 a6.1.1 hdm, bd_t, aB_t x ms.2.2.2.1 rfl (by omega) (by decide), gd_t, nI_clamp (by omega), mk_b a6.1.1 hdm (by omega), bd_t, bs.1, gd_t, cW]
  by_cases c3 : kBy D x 3 = 3
  · obtain ⟨Mc, Md, b1, b2, b3, b4, b5⟩ := a6.fail (k := 3) (by decide) (by decide)
    have b2' : f_X11_fails Mb 0 3 = some Md := b2
    rw [full_yes (m := 3) (x := 3) rfl (by decide) (by omega) (by omega) b1, bd_t]
    dsimp only
    rw [if_neg (show ¬ (1 : Int32) = 0 by decide)]
    refine ⟨Mc, Md, rfl, hrf ?_, LnE.pb (oMa.tr b3) (oMb.tr b4) b5⟩
    rw [hwl, if_pos c3, b2', bd_t]
    exact r52b b5.1.2.1 (by rw [b4.2.1 _ _ (by omega), vNb]) (b5.num _ _) b5.n
  obtain ⟨w, hw⟩ : ∃ w, w = kBy D x 3 := ⟨_, rfl⟩
  have hw3 : w < 3 := by omega
  rw [full_no (m := 3) (x := 3) rfl (by decide) (by omega), bd_t]
  dsimp only
  rw [if_pos rfl, mk_8 a6.1.1 hdm, bd_t, aB_t x ms.2.2.2.1 rfl (by omega) (by decide), gd_t, mk_b a6.1.1 hdm (by omega), bd_t]
  obtain ⟨Mc, Md, a7, e7, t7, b1, b2, b3, b4, b5, b6⟩ := a6.next
  have ha7 : n ≤ a7 := by have := a6.2.1.1; omega
  have oMc : OnT kC M1 Mc := oMa.tr (b3.mono (fun _ => tkC_k))
  have oMd : OnN kN M2 Md := oMb.tr (b4.mono (fun _ => tkR_k))
  have hR7 := b6.1.2.1
  have x6' : f_X11_number Mb 0 0 (nI (kNb D) - 1) = some (Md, nI x) := by
    have := x6
    rw [b2, bd_t] at this
    exact this
  have cW3 : gI Mc (d + 15 + 4 * x) 3 = nI w := by rw [oMc.2 _ _ (by omega), hw]; exact (hC.2.2.2 x x1).1 3 (by decide)
  have cmc : CM Mc d D := hC.keep hN (fun a q1 q2 => ⟨fun k => oMc.2 a k (by omega), fun k => oMc.gL a k⟩)
  have h52 : f_X11_wantLine_52 Mb 0 = if gI Md 0 8 = 2 then (if 6 ≤ gI Md 0 10 then f_X11_wantLine_147 Md 0 (nI (24 + x)) (nI w) else f_X11_wantLine_109 FU Md 0 (nI (24 + x)) (nI w) 0) else f_X11_wantLine_147 Md 0 (nI (24 + x)) (nI w) := by
    unfold f_X11_wantLine_52
    rw [oR, gd_t, hasRead_eq hR6 (j := 4) (x := 4) (by decide) rfl, bd_t, vNb, x6', bd_t]
    dsimp only
    rw [if_pos b6.2.2.2.1, rr_20 hR7, bd_t, m424, aB_t (4 * (24 + x) + 3) zR_10 rfl (by omega) (by decide), gd_t, nx_t, nI_clamp (by omega), vW oMd, e24, ← hw]
  rw [b1, bd_t]
  have kpa : KpC d M1 Mc := KpC.T oMc
  have kpb : KpR M2 Md := KpR.N oMd
  have unf147 : ∀ {Z Z' v}, RR Z → f_X11_number Z 0 0 5 = some (Z', v) → ∀ r, (gd (aB shR 11 0 ((9 * nI (24 + x)) + (3 * nI w))) <| nx (sI Z' 11 (((9 * nI (24 + x)) + (3 * nI w)) : Int32).toNatClampNeg v) fun M5 => bd (gR M5 0 21) fun r6 => bd (f_X11_number_ M5 0 234466237 1 9) fun u7 => gd (aB shR r6 0 (((9 * nI (24 + x)) + (3 * nI w)) + 1)) <| nx (sI u7.1 r6 ((((9 * nI (24 + x)) + (3 * nI w)) + 1) : Int32).toNatClampNeg u7.2) fun M9 => bd (gR M9 0 21) fun r10 => bd (f_X11_number_ M9 0 6564179 0 99) fun u11 => gd (aB shR r10 0 (((9 * nI (24 + x)) + (3 * nI w)) + 2)) <| nx (sI u11.1 r10 ((((9 * nI (24 + x)) + (3 * nI w)) + 2) : Int32).toNatClampNeg u11.2) fun M13 => bd (gR M13 0 20) fun r14 => gd (aB shR r14 0 ((4 * nI (24 + x)) + 3)) <| nx ((gI M13 r14 (((4 * nI (24 + x)) + 3) : Int32).toNatClampNeg)) fun v16 => nx (sI M13 r14 (((4 * nI (24 + x)) + 3) : Int32).toNatClampNeg (v16 + 1)) fun M17 => some M17) = r → f_X11_wantLine_147 Z 0 (nI (24 + x)) (nI w) = r := fun {Z Z' v} hr hn r hh => by
    unfold f_X11_wantLine_147
    rw [oR, gd_t, rr_21 hr, bd_t, hn, bd_t]
    exact hh
  rcases b6.val (l := 0) (H := 6) (hi := 5) (by decide) (by omega) (by omega) with ⟨g, -, g1, g2, g3, g4, g5, g6⟩ | ⟨k, Me, Mf, v1, v2, y1, y2, y3, y4, y5, y6, y7⟩
  case' inr =>
    have y2' : f_X6_numberHere Mc 1 0 5 = some (Me, v1) := y2
    have cWe : gI Me (d + 15 + 4 * x) 3 = nI w := by rw [y4.2 _ _ (by omega), cW3]
    obtain ⟨Mg, z1, z2, z3⟩ := w82_pb (v := v1) hd (by omega) hw3 y6 cWe
    obtain ⟨Mh, u1, u2, u3⟩ := w147_pb (b0 := x) (w := w) (v := v2) (by omega) hw3 y6
    have e147 := unf147 hR7 y3 _ u1
    refine ⟨Mg, Mh, ?_, hrf ?_, Or.inr ?_, (kpa.tr (KpC.T y4)).tr z2, (kpb.tr (KpR.N y5)).tr u2⟩
    · rw [y2', bd_t]
      dsimp only
      rw [if_neg y6.c, z1]
    · rw [hwl, if_neg c3, h52, e147]
      by_cases c : gI Md 0 8 = 2
      · obtain ⟨y, q1, q2, q3⟩ := y7 c
        rw [if_pos c, q1, if_pos (show (6 : Int32) ≤ nI y from nI_le (a := 6) (by omega) (by omega))]
      · rw [if_neg c]
    · exact ⟨⟨z3.1.1, u3.1.2.1, z3.1.2.2.1, z3.1.2.2.2.1, u3.1.2.2.2.2.1, z3.1.2.2.2.2.2.1, u3.1.2.2.2.2.2.2⟩, by
        obtain ⟨-, ⟨k1, p1, q1, q2, q3, q4, q5, q6, q7⟩, -⟩ := z3
        obtain ⟨-, ⟨k2, p2, r1, r2, r3, r4, r5, r6, r7⟩, -⟩ := u3
        have s5 : gI Mf 0 12 = gI Mh 0 12 := by rw [r5, ← r4]; obtain ⟨-, ⟨k3, p3, s1, s2, s3, s4, s5, s6, s7⟩, -⟩ := y6; rw [s5, s4]
        have s7 : gI Mf 0 13 = gI Mh 0 13 := by rw [r7, ← r6]; obtain ⟨-, ⟨k3, p3, s1, s2, s3, s4, s5, s6, s7⟩, -⟩ := y6; rw [s7, s6]
        exact ⟨k1, p1, q1, q2, q3, q4, by rw [← s5]; exact q5, q6, by rw [← s7]; exact q7⟩, z3.2.2⟩
  have g3' : f_X6_numberHere Mc 1 0 5 = some (Mc, nI g) := g3
  have hwo := wantOf_eq hdm b6.1.1 hW cmc x1 (g := g) (by omega)
  rw [g3', bd_t]
  dsimp only
  rw [if_pos b6.2.2.1, bs.1, gd_t, hwo, bd_t]
  have h109 := w109 (L := L) (B := B) (a := a7) (e := e7) (t := t7) h x1 hw g1 hd FU 0 Md Mc (by omega) (by unfold FU; omega) oMd g5 (Or.inl ⟨b6, fun i hi => by omega⟩)
  have hwl2 : f_X11_wantLine Mb 0 = f_X11_wantLine_109 FU Md 0 (nI (24 + x)) (nI w) (nI 0) := by
    rw [hwl, if_neg c3, h52, if_pos g4, g5, if_neg (show ¬ (6 : Int32) ≤ nI g from nI_ge (b := 6) g1 (by decide))]
    rfl
  cases hk : kWo D x g with
  | some w' =>
    dsimp only
    have hw'l := (kWo_lt hk).1
    rw [if_neg (ne_m1 (by omega))]
    obtain ⟨A', Mz, p1, p2, p3, p4, p5⟩ := h109.2 (by rw [hk]; exact fun z => by cases z) (Or.inl (fun i hi => by omega))
    have p4' : f_X6_refuse Mc 1 2 = some A' := by
      rcases p4 with z | z
      · exact z.2
      · subst z
        exact absurd b6.2.2.1 p5.c
    have cWe : gI A' (d + 15 + 4 * x) 3 = nI w := by rw [p3.2 _ _ (by omega), cW3]
    obtain ⟨Mg, z1, z2, z3⟩ := w82_pb (v := nI g) hd (by omega) hw3 p5 cWe
    obtain ⟨Mh, u1, u2, u3⟩ := w147_pb (b0 := x) (w := w) (v := 0) (by omega) hw3 p5
    have e147 := unf147 p5.1.2.1 (p5.num 0 5) _ u1
    refine ⟨Mg, Mh, by rw [p4', bd_t, z1], hrf (by rw [hwl2, p1, e147]), Or.inr ?_, (kpa.tr (KpC.T p3)).tr z2, (kpb.tr (KpR.N p2)).tr u2⟩
    exact ⟨⟨z3.1.1, u3.1.2.1, z3.1.2.2.1, z3.1.2.2.2.1, u3.1.2.2.2.2.1, z3.1.2.2.2.2.2.1, u3.1.2.2.2.2.2.2⟩, by
      obtain ⟨-, ⟨k1, p1, q1, q2, q3, q4, q5, q6, q7⟩, -⟩ := z3
      obtain ⟨-, ⟨k2, p2, r1, r2, r3, r4, r5, r6, r7⟩, -⟩ := u3
      have s5 : gI Mz 0 12 = gI Mh 0 12 := by rw [r5, ← r4]; obtain ⟨-, ⟨k3, p3, s1, s2, s3, s4, s5, s6, s7⟩, -⟩ := p5; rw [s5, s4]
      have s7 : gI Mz 0 13 = gI Mh 0 13 := by rw [r7, ← r6]; obtain ⟨-, ⟨k3, p3, s1, s2, s3, s4, s5, s6, s7⟩, -⟩ := p5; rw [s7, s6]
      exact ⟨k1, p1, q1, q2, q3, q4, by rw [← s5]; exact q5, q6, by rw [← s7]; exact q7⟩, z3.2.2⟩
  | none =>
    dsimp only
    rw [if_pos rfl]
    have p1 := h109.1 b6 hk
    obtain ⟨Me, Mf, a8, e8, t8, c1, c2, c3', c4, c5, c6⟩ := b6.next
    have ha8 : n ≤ a8 := by have := b6.2.1.1; omega
    have oMe : OnT kC M1 Me := oMc.tr (c3'.mono (fun _ => tkC_k))
    have oMf : OnN kN M2 Mf := oMd.tr (c4.mono (fun _ => tkR_k))
    have g6' : f_X11_number Md 0 0 5 = some (Mf, nI g) := by
      have := g6
      rw [c2, bd_t] at this
      exact this
    obtain ⟨i0, hi0⟩ : ∃ i, i = 9 * (24 + x) + 3 * w := ⟨_, rfl⟩
    have hS0 : SP L B n True Me Mf := Or.inl ⟨⟨a8, e8, t8, ha8, c6⟩, trivial⟩
    have hS : SP L B n True (sI Me (d + 16 + 4 * x) w (nI g)) (sI Mf 11 i0 (nI g)) := (hS0.w1 (by omega)).w2 (by decide)
    have cWe : gI Me (d + 15 + 4 * x) 3 = nI w := by rw [c3'.2 _ _ (by omega), cW3]
    obtain ⟨C1, B1, v1, Z1, w1, f1, f2, f3, f4, f5, f6, f7, f8, f9, f10, f11, f12⟩ := fld_w (i0 := 13) (w := 234466237) (x := d + 17 + 4 * x) (j := w) (c := 11) (i := i0 + 1) (l := 1) (H := 10) (lo := 1) (hi := 9) wT_c.2.2.2.2.2.2.2.2.2.2.2.2.2.1.symm (by decide) rfl (by decide) (by omega) (by omega) (by omega) (by decide) hS oMe.w oMf.w
    obtain ⟨C2, B2, v2, Z2, w2, k1, k2, k3, k4, k5, k6, k7, k8, k9, k10, k11, k12⟩ := fld_w (i0 := 23) (w := 6564179) (x := d + 18 + 4 * x) (j := w) (c := 11) (i := i0 + 2) (l := 0) (H := 100) (lo := 0) (hi := 99) wT_c.2.2.2.2.2.2.2.2.2.2.2.2.2.2.2.2.2.2.2.2.2.2.2.1.symm (by decide) rfl (by decide) (by omega) (by omega) (by omega) (by decide) f12 f7 f8
    have cwf : gI (sI B2 (d + 18 + 4 * x) w v2) (d + 15 + 4 * x) 3 = nI w := by rw [k7.2 _ _ (by omega), gI_sI, if_neg (by omega), gI_sI, if_neg (by omega), gI_sI, if_neg (by omega), hw]; exact (hC.2.2.2 x x1).1 3 (by decide)
    have zwf : gI (sI Z2 11 (i0 + 2) w2) 10 (4 * (24 + x) + 3) = nI w := by rw [k8.2.1 _ _ (by omega), gI_sI, if_neg (by omega), gI_sI, if_neg (by omega), gI_sI, if_neg (by omega), hw]; exact (h.2.2.2.1.2.2.2 x x1).1 3 (by decide)
    have i93 : (9 : Int32) * nI (24 + x) + 3 * nI w = nI i0 := by rw [m93, hi0]
    refine ⟨sI (sI B2 (d + 18 + 4 * x) w v2) (d + 15 + 4 * x) 3 (nI (w + 1)), sI (sI Z2 11 (i0 + 2) w2) 10 (4 * (24 + x) + 3) (nI (w + 1)), ?_, hrf ?_, ?_, ?_, ?_⟩
    · unfold f_X6_readWants_82
      rw [oC_1, gd_t, c1, bd_t, bs.1, gd_t, mk_b4 c6.1.1 hdm (by omega), bd_t, cWe, aB_t w bs.2.1 rfl hw3 (by decide), gd_t, nx_t, nI_clamp (by omega), f1, bd_t, mk_b5 f9 hdm (by omega), bd_t, f2, bd_t, aB_t w bs.2.2.1 rfl hw3 (by decide), gd_t, nx_t, k1, bd_t, mk_b6 k9 hdm (by omega), bd_t, k2, bd_t, aB_t w bs.2.2.2 rfl hw3 (by decide), gd_t, nx_t, nx_t, cwf, nI_1]
    · rw [hwl2, p1]
      refine unf147 hR7 g6' _ ?_
      rw [i93, aB_t i0 zR_11 rfl (by omega) (by decide), gd_t, nx_t, nI_clamp (by omega), rr_21 hS.r, bd_t, f3, bd_t]
      dsimp only
      rw [show nI i0 + 1 = nI (i0 + 1) from nI_add _ 1, aB_t (i0 + 1) zR_11 rfl (by omega) (by decide), gd_t, nx_t, nI_clamp (by omega), rr_21 f12.r, bd_t, k3, bd_t]
      dsimp only
      rw [show nI i0 + 2 = nI (i0 + 2) from nI_add _ 2, aB_t (i0 + 2) zR_11 rfl (by omega) (by decide), gd_t, nx_t, nI_clamp (by omega), rr_20 k12.r, bd_t, m4_3, aB_t (4 * (24 + x) + 3) zR_10 rfl (by omega) (by decide), gd_t, nx_t, nx_t, nI_clamp (by omega), zwf, nI_1]
    · have hS4 := (k12.w1 (a := d + 15 + 4 * x) (k := 3) (v := nI (w + 1)) (by omega)).w2 (a := 10) (k := 4 * (24 + x) + 3) (v := nI (w + 1)) (by decide)
      refine hS4.im (fun z => ⟨wnD D x w (fun j => if j = 0 then g else if j = 1 then z.1.2.choose else z.2.choose), ?_, rfl⟩)
      obtain ⟨⟨-, hy1⟩, hy2⟩ := z
      obtain ⟨ya, yb, yc, yd⟩ := hy1.choose_spec
      obtain ⟨za, zb, zc, zd⟩ := hy2.choose_spec
      generalize hy1.choose = y1 at *
      generalize hy2.choose = y2 at *
      refine h.want hl hll x1 hw hw3 ⟨by show g ≤ 5; omega, ya, by show y1 ≤ 9; omega, by show y2 ≤ 99; omega⟩ hk (fun a k z1 z2 z3 z4 => ?_) (fun a k z1 => ?_) ?_ ?_ ?_ ?_ ?_ (fun a k z1 z2 z3 z4 z5 => ?_) (fun j hj => ?_) ?_ ?_ hd
      · have z1' : ¬ (a = 1 ∧ kC k) := fun z => by unfold inB kC at *; omega
        rw [gI_sI, if_neg (by omega), gI_sI, if_neg (by omega), k7.2 _ _ z1', gI_sI, if_neg (by omega), gI_sI, if_neg (by omega), gI_sI, if_neg (by omega)]
      · show gL B2 a k = _
        rw [k5.gL]
        rfl
      · rw [gI_sI, if_neg (by omega), gI_sI, if_neg (by omega), k7.2 _ _ (by omega), gI_sI, if_neg (by omega), gI_sI, if_neg (by omega), gI_sI, if_pos ⟨rfl, rfl⟩]; rfl
      · rw [gI_sI, if_neg (by omega), gI_sI, if_neg (by omega), k7.2 _ _ (by omega), gI_sI, if_neg (by omega), gI_sI, if_pos ⟨rfl, rfl⟩, yc]; rfl
      · rw [gI_sI, if_neg (by omega), gI_sI, if_neg (by omega), gI_sI, if_pos ⟨rfl, rfl⟩, zc]; rfl
      · rw [gI_sI, if_neg (by omega), gI_sI, if_pos ⟨rfl, rfl⟩]
      · rw [gI_sI, if_pos ⟨rfl, rfl⟩]
      · rw [gI_sI, if_neg (by omega), gI_sI, if_neg (by omega), k8.2.1 _ _ (by omega), gI_sI, if_neg (by omega), gI_sI, if_neg (by omega), gI_sI, if_neg (by omega)]
      · rw [gI_sI, if_neg (by omega), gI_sI, if_neg (by omega), k8.2.1 _ _ (by omega)]
        have hj' : j = 0 ∨ j = 1 ∨ j = 2 := by omega
        rcases hj' with rfl | rfl | rfl
        · rw [gI_sI, if_neg (by omega), gI_sI, if_neg (by omega), gI_sI, if_pos ⟨rfl, by omega⟩]; rfl
        · rw [gI_sI, if_neg (by omega), gI_sI, if_pos ⟨rfl, by omega⟩, yd]; rfl
        · rw [gI_sI, if_pos ⟨rfl, by omega⟩, zd]; rfl
      · rw [gI_sI, if_neg (by omega), gI_sI, if_pos ⟨rfl, rfl⟩]
      · rw [gI_sI, if_pos ⟨rfl, rfl⟩]
    · have j1 : inB d (d + 16 + 4 * x) := by unfold inB; omega
      have j2 : inB d (d + 17 + 4 * x) := by unfold inB; omega
      have j3 : inB d (d + 18 + 4 * x) := by unfold inB; omega
      have j0 : inB d (d + 15 + 4 * x) := by unfold inB; omega
      exact ((((KpC.rf.I (Or.inl j1)).I (Or.inl j2)).I (Or.inl j3)).tr (KpC.T k7)).I (Or.inl j0)
    · exact ((((KpR.rf.I (sl_11 (by omega))).I (sl_11 (by omega))).I (sl_11 (by omega))).tr (KpR.N k8)).I (sl_10 (by omega))
end L7
