/-! A STUCK LINE -/
section L6
variable {L : Nat} {B : Nat → Int32} {d n : Nat} {D : MK} {M1 M2 M1' M2' : Mem}
def skD (D : MK) (r f t : Nat) : MK := fun a b c x => if a = 2 ∧ b = r ∧ f ≤ c ∧ c ≤ t then 1 else if a = 0 ∧ b = 2 then D 0 2 0 0 + 1 else D a b c x
theorem MkR.stuck (h : MkR d D M1 M2) (hl : 0 < kLn D) (hll : kLn D < 2000) {r f t c : Nat} (hr : r < kNr D) (hft : f ≤ 59) (ht : t < kMi D) (hc8 : gI M1 1 8 = nI c) (hc : c < 4)
    (i1 : ∀ a k, inB d a → ¬ (a = d ∧ k = 2) → gI M1' a k = gI M1 a k) (x8 : gI M1' 1 8 = nI (c + 1)) (l1 : ∀ a k, inB d a → ¬ (a = d + 4 + r ∧ k = 2) → gL M1' a k = gL M1 a k) (x2 : ∀ j, j < 64 → bitL (gL M1' (d + 4 + r) 2) j = (bitL (gL M1 (d + 4 + r) 2) j || decide (f ≤ j ∧ j ≤ t))) (x4 : gI M1' d 2 = nI (kLn D + 1))
    (i2 : ∀ a k, 6 ≤ a → a ≤ 12 → ¬ (a = 12 ∧ 3 * (16 + c) ≤ k ∧ k < 3 * (16 + c) + 3) → ¬ (a = 7 ∧ k = 29) → ¬ (a = 6 ∧ k = 4) → gI M2' a k = gI M2 a k) (y0 : gI M2' 12 (3 * (16 + c)) = nI r) (y1 : gI M2' 12 (3 * (16 + c) + 1) = nI f) (y2 : gI M2' 12 (3 * (16 + c) + 2) = nI t) (y3 : gI M2' 7 29 = nI (c + 1)) (y4 : gI M2' 6 4 = nI (kLn D + 1)) (hd : d = 3 ∨ d = 42) : MkR d (skD D r f t) M1' M2' := by
  obtain ⟨hW, hSt, hC, hR, ⟨m, sr, sf, st, g1, g2, g3, g4, g5⟩, g6⟩ := h
  have hMi := hW.mi
  obtain ⟨w1, w2, w3, w4, w5, w6, w7⟩ := hW
  have w1' : 1 ≤ kLn D ∧ kLn D ≤ 2000 ∧ 2 ≤ kP D ∧ kP D ≤ 12 ∧ 1 ≤ kMi D ∧ kMi D ≤ 60 := by
    rcases w1 with z | z
    · omega
    · exact z
  have em : m = c := (nI_eq (by omega) (by omega)).mp (g2.symm.trans hc8)
  subst em
  have eS : ∀ r' m', kSt (skD D r f t) r' m' = if r' = r ∧ f ≤ m' ∧ m' ≤ t then 1 else kSt D r' m' := fun r' m' => by
    unfold kSt skD
    by_cases q : r' = r ∧ f ≤ m' ∧ m' ≤ t
    · rw [if_pos q, if_pos ⟨rfl, q⟩]
    · rw [if_neg q, if_neg (fun z => q z.2), if_neg (by omega)]
  have le1 : ∀ r' m', kSt (skD D r f t) r' m' ≤ 1 := fun r' m' => by
    rw [eS]
    split
    · exact Nat.le_refl _
    · exact g6 r' m'
  refine ⟨⟨Or.inr ⟨(by show 1 ≤ kLn D + 1; omega), (by show kLn D + 1 ≤ 2000; omega), w1'.2.2⟩, w2, w3, w4, fun y hy => ⟨(w5 y hy).1, (w5 y hy).2.1, fun k => le1 y k⟩, w6, w7⟩, fun r' m' hr' hm' => ?_, ⟨⟨?_, ?_, x4, ?_, ?_, ?_⟩, fun r' hr' => ?_, fun s hs j hj => ?_, fun i hi => ⟨fun j hj => ?_, fun w hw => ?_⟩⟩, ⟨⟨?_, ?_, y4, ?_, ?_, ?_⟩, fun r' hr' => ?_, fun s hs j hj => ?_, fun i hi => ⟨fun j hj => ?_, fun w hw j hj => ?_⟩⟩, ⟨m + 1, fun i => if i = m then r else sr i, fun i => if i = m then f else sf i, fun i => if i = m then t else st i, by omega, x8, y3, fun i hi => ?_, fun r' m' => ?_⟩, le1⟩
  · have hm2 : kMi D ≤ m' := hm'
    rw [eS, if_neg (by omega)]
    exact hSt r' m' hr' hm'
  · rw [i1 _ _ (by unfold inB; omega) (by omega)]; exact hC.1.1
  · rw [i1 _ _ (by unfold inB; omega) (by omega)]; exact hC.1.2.1
  · rw [i1 _ _ (by unfold inB; omega) (by omega)]; exact hC.1.2.2.2.1
  · rw [i1 _ _ (by unfold inB; omega) (by omega)]; exact hC.1.2.2.2.2.1
  · rw [i1 _ _ (by unfold inB; omega) (by omega)]; exact hC.1.2.2.2.2.2
  · have hr2 : r' < kNr D := hr'
    have hb := (hC.2.1 r' hr2).2.2
    rw [i1 _ _ (by unfold inB; omega) (by omega), i1 _ _ (by unfold inB; omega) (by omega)]
    refine ⟨(hC.2.1 r' hr2).1, (hC.2.1 r' hr2).2.1, fun j hj => ?_⟩
    rw [eS]
    by_cases e : r' = r
    · subst e
      rw [x2 j hj, hb j hj]
      by_cases q : f ≤ j ∧ j ≤ t
      · rw [if_pos ⟨rfl, q⟩, decide_eq_true q, Bool.or_true]
        rfl
      · rw [if_neg (fun z => q z.2), decide_eq_false q, Bool.or_false]
    · rw [if_neg (fun z => e z.1), l1 _ _ (by unfold inB; omega) (by omega), hb j hj]
  · have hs' : s < kNs D := hs
    rw [i1 _ _ (by unfold inB; omega) (by omega)]
    exact hC.2.2.1 s hs' j hj
  · have hi' : i < kNb D := hi
    rw [i1 _ _ (by unfold inB; omega) (by omega)]
    exact (hC.2.2.2 i hi).1 j hj
  · have hi' : i < kNb D := hi
    rw [i1 _ _ (by unfold inB; omega) (by omega), i1 _ _ (by unfold inB; omega) (by omega), i1 _ _ (by unfold inB; omega) (by omega)]
    exact (hC.2.2.2 i hi).2 w hw
  · rw [i2 _ _ (by omega) (by omega) (by omega) (by omega) (by omega)]; exact hR.1.1
  · rw [i2 _ _ (by omega) (by omega) (by omega) (by omega) (by omega)]; exact hR.1.2.1
  · rw [i2 _ _ (by omega) (by omega) (by omega) (by omega) (by omega)]; exact hR.1.2.2.2.1
  · rw [i2 _ _ (by omega) (by omega) (by omega) (by omega) (by omega)]; exact hR.1.2.2.2.2.1
  · rw [i2 _ _ (by omega) (by omega) (by omega) (by omega) (by omega)]; exact hR.1.2.2.2.2.2
  · rw [i2 _ _ (by omega) (by omega) (by omega) (by omega) (by omega), i2 _ _ (by omega) (by omega) (by omega) (by omega) (by omega)]
    exact hR.2.1 r' hr'
  · rw [i2 _ _ (by omega) (by omega) (by omega) (by omega) (by omega)]; exact hR.2.2.1 s hs j hj
  · rw [i2 _ _ (by omega) (by omega) (by omega) (by omega) (by omega)]; exact (hR.2.2.2 i hi).1 j hj
  · rw [i2 _ _ (by omega) (by omega) (by omega) (by omega) (by omega)]; exact (hR.2.2.2 i hi).2 w hw j hj
  · by_cases q : i = m
    · subst q
      simp only [if_true]
      exact ⟨hr, hft, by omega, y0, y1, y2⟩
    · simp only [if_neg q]
      rw [i2 _ _ (by omega) (by omega) (by omega) (by omega) (by omega), i2 _ _ (by omega) (by omega) (by omega) (by omega) (by omega), i2 _ _ (by omega) (by omega) (by omega) (by omega) (by omega)]
      exact g4 i (by omega)
  · rw [eS]
    constructor
    · intro z
      by_cases q : r' = r ∧ f ≤ m' ∧ m' ≤ t
      · exact ⟨m, by omega, by simp [q.1], by simpa using q.2.1, by simpa using q.2.2⟩
      · rw [if_neg q] at z
        obtain ⟨i, hi, e1, e2, e3⟩ := (g5 r' m').mp z
        have : i ≠ m := by omega
        exact ⟨i, by omega, by simp [this, e1], by simpa [this] using e2, by simpa [this] using e3⟩
    · rintro ⟨i, hi, e1, e2, e3⟩
      by_cases q : i = m
      · subst q
        simp only [if_true] at e1 e2 e3
        rw [if_pos ⟨e1.symm, e2, e3⟩]
      · simp only [if_neg q] at e1 e2 e3
        have := (g5 r' m').mpr ⟨i, by omega, e1, e2, e3⟩
        rw [this]
        split <;> rfl
theorem stuck77 {r t c : Nat} (hd : d = 3 ∨ d = 42) (hr : r < 3) (ht : t < 60) : ∀ n k M, k ≤ t + 1 → t + 1 < n + k → CR M → gI M 1 8 = nI c → ∃ M', f_X6_readStuck_77 n M 1 d (nI r) (nI t) (nI k) = some M' ∧ M'.2.2 = M.2.2 ∧ (∀ a j, ¬ (a = 1 ∧ j = 8) → gI M' a j = gI M a j) ∧ gI M' 1 8 = nI (c + 1) ∧ (∀ a j, ¬ (a = d + 4 + r ∧ j = 2) → gL M' a j = gL M a j) ∧ ∀ j, j < 64 → bitL (gL M' (d + 4 + r) 2) j = (bitL (gL M (d + 4 + r) 2) j || decide (k ≤ j ∧ j ≤ t)) := by
  have hdm : d ∈ MB := by rcases hd with rfl | rfl <;> decide
  have ms := mb_sh d hdm
  intro n
  induction n with
  | zero => intro k M h1 h2; omega
  | succ n ih =>
    intro k M h1 h2 hC hc
    show ∃ M', s_X6_readStuck_77 (f_X6_readStuck_77 n) M 1 d (nI r) (nI t) (nI k) = some M' ∧ _
    unfold s_X6_readStuck_77
    by_cases e : k = t + 1
    · subst e
      rw [if_pos (nI_lt (by omega) (by omega)), oC_1, gd_t, nx_t, hc, nI_1]
      refine ⟨_, rfl, rfl, fun a j z => by rw [gI_sI, if_neg z], by rw [gI_sI, if_pos ⟨rfl, rfl⟩], fun _ _ _ => rfl, fun j hj => ?_⟩
      rw [decide_eq_false (by omega), Bool.or_false]
      rfl
    rw [if_neg (nI_nlt (by omega) (by omega)), ms.1, gd_t, mk_6 hC hdm, bd_t, aB_t r ms.2.1 rfl hr (by decide), gd_t, nI_clamp (by omega), mk_r hC hdm hr, bd_t, ms.2.2.2.2.1 r hr, gd_t, nx_t, nx_t, nI_1]
    obtain ⟨M', e1, e2, e3, e4, e5, e6⟩ := ih (k + 1) (sL M (d + 4 + r) 2 (gL M (d + 4 + r) 2 ||| (1 <<< ((nI k).toInt64 &&& 63)))) (by omega) (by omega) hC.L hc
    refine ⟨M', e1, e2, e3, e4, fun a j z => ?_, fun j hj => ?_⟩
    · rw [e5 a j z, gL_sL, if_neg z]
    · rw [e6 j hj, gL_sL, if_pos ⟨rfl, rfl⟩, bitL_or (by omega) hj]
      by_cases q : j = k
      · rw [decide_eq_true q, decide_eq_true (show k ≤ j ∧ j ≤ t by omega), Bool.or_true, Bool.true_or]
      · rw [decide_eq_false q, Bool.or_false]
        by_cases q2 : k ≤ j ∧ j ≤ t
        · rw [decide_eq_true q2, decide_eq_true (show k + 1 ≤ j ∧ j ≤ t by omega)]
        · rw [decide_eq_false q2, decide_eq_false (show ¬ (k + 1 ≤ j ∧ j ≤ t) by omega)]
theorem PB.wordc (h : PB L B M1 M2) {i : Nat} (hi : i < 26) : ∃ M', f_X6_word M1 1 i = some M' ∧ OnT kC M1 M' ∧ PB L B M' M2 := by
  obtain ⟨b, b1⟩ := h.isWord hi
  obtain ⟨M1', r1, r2, r3⟩ := h.next
  refine ⟨M1', ?_, r2, r3⟩
  unfold f_X6_word
  rw [oC_1, gd_t, b1, bd_t]
  cases b with
  | true => rw [bI_t, if_neg (show ¬ (1 : Int32) = 0 by decide), r1, bd_t]
  | false => rw [bI_f, if_pos rfl, h.refuse, bd_t, r1, bd_t]
theorem PB.num_ (h : PB L B M1 M2) (w : Int64) (l hi : Int32) : f_X11_number_ M2 0 w l hi = some (M2, l) := by
  unfold f_X11_number_ f_X11_asks f_X11_takes
  rw [oR, gd_t, gd_t, gd_t, h.is, bd_t, if_pos rfl, bd_t]
  dsimp only
  rw [if_pos rfl, h.fails, bd_t, bd_t, h.num, bd_t]
theorem PB.w2 (h : PB L B M1 M2) {a k : Nat} {v : Int32} (ha : 6 ≤ a) : PB L B M1 (sI M2 a k v) := by
  have g : ¬ gI (sI M2 a k v) 0 12 = 0 := by
    rw [gI_sI, if_neg (by omega)]
    exact h.n
  exact ((h.sp (n := 0) (P := True)).w2 ha).bad g
theorem stuck_line {a e t : Nat} (hd : d = 3 ∨ d = 42) (h : MkR d D M1 M2) (hl : 0 < kLn D) (hll : kLn D < 2000) (ha : n ≤ a) (hG : PG L B M1 M2 a e t) : ∃ M1' M2', f_X6_readStuck M1 1 d = some M1' ∧ f_X11_line_72 M2 0 5 = some M2' ∧ LnE L B n d (kLn D) M1 M2 M1' M2' := by
  have hdm : d ∈ MB := by rcases hd with rfl | rfl <;> decide
  have ms := mb_sh d hdm
  have hW := h.1
  have hN := hW.n
  have hMi := hW.mi
  have hCh := h.2.2.1.1
  have hRh := h.2.2.2.1.h4
  have hR := hG.1.2.1
  obtain ⟨c, hc4, g8, g29⟩ : ∃ c, c ≤ 4 ∧ gI M1 1 8 = nI c ∧ gI M2 7 29 = nI c := by
    obtain ⟨⟨m, sr, sf, st, g1, g2, g3, -⟩, -⟩ := h.2.2.2.2
    exact ⟨m, g1, g2, g3⟩
  rw [l72_5 hR, g29]
  unfold f_X6_readStuck
  rw [oC_1, gd_t, g8]
  by_cases hn : c = 4
  · obtain ⟨Ma, Mb, a1, a2, a3, a4, a5⟩ := hG.fail (k := 3) (by decide) (by decide)
    rw [full_yes (m := 4) (x := 4) rfl (by decide) (by omega) (by omega) a1, bd_t, if_pos (show nI c = 4 by rw [hn]; rfl), l141_bad a2 a5.n]
    dsimp only
    rw [if_neg (show ¬ (1 : Int32) = 0 by decide)]
    exact ⟨Ma, Mb, rfl, rfl, LnE.pb a3 a4 a5⟩
  have hk : c < 4 := by omega
  rw [full_no (m := 4) (x := 4) rfl (by decide) hk, bd_t, if_neg (nI_neL (x := 4) 4 rfl hn (by omega) (by decide))]
  dsimp only
  have iD : inB d d := by unfold inB; omega
  obtain ⟨i0, hi0⟩ : ∃ i, i = 3 * (16 + c) := ⟨_, rfl⟩
  have m316 : (3 : Int32) * (16 + nI c) = nI i0 := by rw [hi0, show (16 : Int32) = nI 16 from rfl, nI_add, show (3 : Int32) = nI 3 from rfl, pk_mul]
  obtain ⟨Ma, Mb, a', e', t', a1, a2, a3, a4, a5, a6⟩ := hG.next
  have hS : SP L B n True Ma Mb := Or.inl ⟨⟨a', e', t', by have := hG.2.1.1; omega, a6⟩, trivial⟩
  have oMa : OnT kC M1 Ma := a3.mono (fun _ => tkC_k)
  have oMb : OnN kN M2 Mb := a4.mono (fun _ => tkR_k)
  have cNr : gI Ma d 3 = nI (kNr D) := by rw [oMa.2 _ _ (by omega), hCh.2.2.2.1]
  have vNr : gI Mb 7 26 = nI (kNr D) := by rw [oMb.2.1 _ _ (by omega), hRh.2.2.2.1]
  have v29 : gI Mb 7 29 = nI c := by rw [oMb.2.1 _ _ (by omega), g29]
  obtain ⟨B0, Z0, v0, w0, b1, b2, b3, b4, b5⟩ := num_sp (l := 0) (H := kNr D) (lo := 0) (hi := nI (kNr D) - 1) rfl rfl (by omega) (by omega) hS
  have b6 := b5.w2 (a := 12) (k := i0) (v := w0) (by decide)
  have oZ0 : OnN kN (sI M2 12 i0 w0) (sI Z0 12 i0 w0) := (oMb.tr b4).w
  obtain ⟨B1, Z1, c1, c2, c3, c4, c5⟩ := word_sp (i := 24) (by decide) b6
  have oB1 := (oMa.tr b3).tr c3
  have cMi : gI B1 d 1 = nI (kMi D) := by rw [oB1.2 _ _ (by omega), hCh.2.1]
  have vMi : gI (sI Z0 12 i0 w0) 7 25 = nI (kMi D) := by rw [oZ0.2.1 _ _ (by omega), gI_sI, if_neg (by omega), hRh.2.1]
  obtain ⟨B2, Z2, v2, w2, d1, d2, d3, d4, d5⟩ := num_sp (l := 0) (H := kMi D) (lo := 0) (hi := nI (kMi D) - 1) rfl rfl (by omega) (by omega) c5
  have d6 := d5.w2 (a := 12) (k := i0 + 1) (v := w2) (by decide)
  have oB2 := oB1.tr d3
  have oZ2 : OnN kN (sI (sI M2 12 i0 w0) 12 (i0 + 1) w2) (sI Z2 12 (i0 + 1) w2) := ((oZ0.tr c4).tr d4).w
  have n24 : f_X11_number_ (sI Z0 12 i0 w0) 0 131638 0 (nI (kMi D) - 1) = some (Z2, w2) := by
    unfold f_X11_number_
    rw [oR, gd_t, ← wT_c.2.2.2.2.2.2.2.2.2.2.2.2.2.2.2.2.2.2.2.2.2.2.2.2.1, c2, bd_t, d2, bd_t]
  have gw : gI (sI Z2 12 (i0 + 1) w2) 12 (i0 + 1) = w2 := by rw [gI_sI, if_pos ⟨rfl, rfl⟩]
  have vMi2 : gI (sI Z2 12 (i0 + 1) w2) 7 25 = nI (kMi D) := by rw [oZ2.2.1 _ _ (by omega), gI_sI, if_neg (by omega), gI_sI, if_neg (by omega), hRh.2.1]
  have hcl : ∀ {M1'}, (bd (f_X6_word B2 1 25) fun u8 => bd (f_X6_number u8 1 v2 ((gI u8 d 1) - 1)) fun u9 => if (gI u9.1 1 2) = 0 then f_X6_readStuck_77 FU u9.1 1 d v0 (u9.2) v2 else some u9.1) = some M1' → (bd (f_X6_next M1 1) fun u3 => gd (oB shC d 4) <| bd (f_X6_number u3 1 0 ((gI u3 d 3) - 1)) fun u5 => bd (f_X6_word u5.1 1 24) fun u6 => bd (f_X6_number u6 1 0 ((gI u6 d 1) - 1)) fun u7 => bd (f_X6_word u7.1 1 25) fun u8 => bd (f_X6_number u8 1 u7.2 ((gI u8 d 1) - 1)) fun u9 => if (gI u9.1 1 2) = 0 then f_X6_readStuck_77 FU u9.1 1 d (u5.2) (u9.2) (u7.2) else some u9.1) = some M1' := fun {M1'} hh => by
    rw [a1, bd_t, ms.1, gd_t, cNr, b1, bd_t]
    dsimp only
    rw [c1, bd_t, cMi, d1, bd_t]
    exact hh
  have hrf : ∀ {M2'}, (bd (f_X11_number_ (sI Z2 12 (i0 + 1) w2) 0 555 w2 (nI (kMi D) - 1)) fun u17 => nx (sI u17.1 12 (i0 + 2) u17.2) fun M19 => bd (gR M19 0 17) fun r20 => gd (aB shR r20 0 29) <| nx (sI M19 r20 (29 : Int32).toNatClampNeg ((gI M19 r20 (29 : Int32).toNatClampNeg) + 1)) fun M22 => some M22) = some M2' → f_X11_line_146 M2 0 5 = some M2' := fun {M2'} hh => by
    unfold f_X11_line_146 f_X11_stuckLine
    rw [oR, gd_t, if_pos hG.2.2.2.1, a2, bd_t, if_neg (show ¬ (5 : Int32) = 2 by decide), if_neg (show ¬ (5 : Int32) = 3 by decide), if_neg (show ¬ (5 : Int32) = 4 by decide), if_pos rfl, gd_t, hasRead_eq hS.r (j := 5) (x := 5) (by decide) rfl, bd_t, v29, rr_22 hS.r, bd_t, hasRead_eq hS.r (j := 2) (x := 2) (by decide) rfl, bd_t, vNr, b2, bd_t, m316, aB_t i0 zR_12 rfl (by omega) (by decide), gd_t, nx_t, nI_clamp (n := i0) (by omega), rr_22 b6.r, bd_t, hasRead_eq b6.r (j := 1) (x := 1) (by decide) rfl, bd_t, vMi, n24, bd_t, show nI i0 + 1 = nI (i0 + 1) from nI_add _ 1, aB_t (i0 + 1) zR_12 rfl (by omega) (by decide), gd_t, nx_t, nI_clamp (n := i0 + 1) (by omega), rr_22 d6.r, bd_t, aB_t (i0 + 1) zR_12 rfl (by omega) (by decide), gd_t, nx_t, gw, hasRead_eq d6.r (j := 1) (x := 1) (by decide) rfl, bd_t, vMi2, show nI i0 + 2 = nI (i0 + 2) from nI_add _ 2, aB_t (i0 + 2) zR_12 rfl (by omega) (by decide), nI_clamp (n := i0 + 2) (by omega)]
    exact congrArg (fun z => bd z fun u7 => some u7) hh
  have kr2 : KpR M2 (sI Z2 12 (i0 + 1) w2) := (((KpR.rf.I (sl_12 (by omega))).I (sl_12 (by omega))).tr (KpR.N oZ2))
  by_cases g : gI (sI Z2 12 (i0 + 1) w2) 0 12 = 0
  case' neg =>
    have hPB := d6.bad g
    obtain ⟨Mk, k1, k2, k3⟩ := hPB.wordc (i := 25) (by decide)
    obtain ⟨Me, v9, r1, r2, r3⟩ := k3.numc v2 (gI Mk d 1 - 1)
    have hPB2 : PB L B Me (sI (sI Z2 12 (i0 + 1) w2) 12 (i0 + 2) w2) := r3.w2 (by decide)
    refine ⟨Me, sI (sI (sI Z2 12 (i0 + 1) w2) 12 (i0 + 2) w2) 7 29 (gI (sI (sI Z2 12 (i0 + 1) w2) 12 (i0 + 2) w2) 7 29 + 1), hcl ?_, hrf ?_, Or.inr (hPB2.w2 (by decide)), ((KpC.T oB2).tr (KpC.T k2)).tr (KpC.T r2), (kr2.I (sl_12 (by omega))).I (sl_7 (by omega))⟩
    · rw [k1, bd_t, r1, bd_t]
      dsimp only
      rw [if_neg r3.c]
    · rw [hPB.num_, bd_t]
      dsimp only
      rw [nx_t, rr_17 hPB2.1.2.1, bd_t, aB_l (i := 29) zR_7 (by decide), gd_t, nx_t]
      rfl
  obtain ⟨-, ⟨-, y0, -, y0b, ey0, ez0⟩, y1, -, y1b, ey1, ez1⟩ := d6.good g
  obtain ⟨B3, Z3, e1, e2, e3, e4, e5⟩ := word_sp (i := 25) (by decide) d6
  obtain ⟨B4, Z4, v4, w4, f1, f2, f3, f4, f5⟩ := num_sp (l := y1) (H := kMi D) (lo := nI y1) (hi := nI (kMi D) - 1) rfl rfl (by omega) (by omega) e5
  have oB3 := oB2.tr e3
  have oB4 := oB3.tr f3
  have cMi3 : gI B3 d 1 = nI (kMi D) := by rw [oB3.2 _ _ (by omega), hCh.2.1]
  have n25 : f_X11_number_ (sI Z2 12 (i0 + 1) w2) 0 555 w2 (nI (kMi D) - 1) = some (Z4, w4) := by
    unfold f_X11_number_
    rw [oR, gd_t, ← wT_c.2.2.2.2.2.2.2.2.2.2.2.2.2.2.2.2.2.2.2.2.2.2.2.2.2, e2, bd_t, ez1, f2, bd_t]
  have f6 := (f5.w2 (a := 12) (k := i0 + 2) (v := w4) (by decide)).w2 (a := 7) (k := 29) (v := nI (c + 1)) (by decide)
  have oZ4 : OnN kN (sI (sI (sI M2 12 i0 w0) 12 (i0 + 1) w2) 12 (i0 + 2) w4) (sI Z4 12 (i0 + 2) w4) := ((oZ2.tr e4).tr f4).w
  have z29 : gI (sI Z4 12 (i0 + 2) w4) 7 29 = nI c := by rw [oZ4.2.1 _ _ (by omega), gI_sI, if_neg (by omega), gI_sI, if_neg (by omega), gI_sI, if_neg (by omega), g29]
  have rz4 : RR (sI Z4 12 (i0 + 2) w4) := f5.r.I
  have hrf2 : f_X11_line_146 M2 0 5 = some (sI (sI Z4 12 (i0 + 2) w4) 7 29 (nI (c + 1))) := hrf (by
    rw [n25, bd_t]
    dsimp only
    rw [nx_t, rr_17 rz4, bd_t, aB_l (i := 29) zR_7 (by decide), gd_t, nx_t, show (29 : Int32).toNatClampNeg = 29 from rfl, z29, nI_1])
  have kr4 : KpR M2 (sI (sI Z4 12 (i0 + 2) w4) 7 29 (nI (c + 1))) := ((((KpR.rf.I (sl_12 (by omega))).I (sl_12 (by omega))).I (sl_12 (by omega))).tr (KpR.N oZ4)).I (sl_7 (by omega))
  by_cases g2 : gI (sI (sI Z4 12 (i0 + 2) w4) 7 29 (nI (c + 1))) 0 12 = 0
  case' neg =>
    have hPB := f6.bad g2
    refine ⟨B4, _, hcl ?_, hrf2, Or.inr hPB, KpC.T oB4, kr4⟩
    rw [e1, bd_t, cMi3, ey1, f1, bd_t]
    dsimp only
    rw [if_neg hPB.c]
  obtain ⟨⟨a7, e7', t7, ha7, hG7⟩, -, y2, y2a, y2b, ey2, ez2⟩ := f6.good g2
  have b48 : gI B4 1 8 = nI c := by rw [oB4.2 _ _ (by unfold kC; omega), g8]
  obtain ⟨M', q1, q2, q3, q4, q5, q6⟩ := stuck77 (r := y0) (t := y2) (c := c) hd (by omega) (by omega) FU y1 B4 (by omega) (by unfold FU; omega) hG7.1.1 b48
  refine ⟨M', _, hcl ?_, hrf2, ?_, ?_, kr4⟩
  · rw [e1, bd_t, cMi3, ey1, f1, bd_t]
    dsimp only
    rw [if_pos hG7.2.2.1, ey0, ey2, q1]
  · have hsp : SP L B n True B4 (sI (sI Z4 12 (i0 + 2) w4) 7 29 (nI (c + 1))) := Or.inl ⟨⟨a7, e7', t7, ha7, hG7⟩, trivial⟩
    have gA : ∃ a e t, n ≤ a ∧ PG L B M' (sI (sI Z4 12 (i0 + 2) w4) 7 29 (nI (c + 1))) a e t := by
      obtain ⟨u1, u2, u3, u4, u5⟩ := hG7
      refine ⟨a7, e7', t7, ha7, ⟨fun a k z => ?_, u1.2.1, u1.2.2.1, ?_, u1.2.2.2.2.1, fun i hi => ?_, u1.2.2.2.2.2.2⟩, ?_, ?_, u4, ?_⟩
      · rw [show gR M' a k = gR B4 a k by show M'.2.2 a k = B4.2.2 a k; rw [q2]]
        exact u1.1 a k z
      · rw [q3 _ _ (by omega)]; exact u1.2.2.2.1
      · rw [q3 _ _ (by omega)]; exact u1.2.2.2.2.2.1 i hi
      · unfold TokR
        rw [q3 1 4 (by omega), q3 1 5 (by omega), q3 1 6 (by omega), q3 1 7 (by omega)]
        exact u2
      · rw [q3 _ _ (by omega)]; exact u3
      · rw [q3 _ _ (by omega)]; exact u5
    refine Or.inl ⟨gA, skD D y0 y1 y2, ?_, rfl⟩
    refine h.stuck hl hll y0b (by omega) y2b g8 hk (fun a k z1 z2 => ?_) ?_ (fun a k z1 z2 => ?_) (fun j hj => ?_) ?_ (fun a k z1 z2 z3 z4 z5 => ?_) ?_ ?_ ?_ ?_ ?_ hd
    · rw [gI_sI, if_neg z2, q3 _ _ (by unfold inB at z1; omega), oB4.2 _ _ (by unfold inB at z1; omega)]
    · rw [gI_sI, if_neg (by omega), q4]
    · show gL M' a k = _
      rw [q5 _ _ z2, oB4.gL]
    · show bitL (gL M' (d + 4 + y0) 2) j = _
      rw [q6 j hj, oB4.gL]
    · rw [gI_sI, if_pos ⟨rfl, rfl⟩]
    · rw [gI_sI, if_neg (by omega), gI_sI, if_neg (by omega), oZ4.2.1 _ _ (by omega), gI_sI, if_neg (by omega), gI_sI, if_neg (by omega), gI_sI, if_neg (by omega)]
    · rw [gI_sI, if_neg (by omega), gI_sI, if_neg (by omega), oZ4.2.1 _ _ (by omega), gI_sI, if_neg (by omega), gI_sI, if_neg (by omega), gI_sI, if_pos ⟨rfl, by omega⟩, ez0]
    · rw [gI_sI, if_neg (by omega), gI_sI, if_neg (by omega), oZ4.2.1 _ _ (by omega), gI_sI, if_neg (by omega), gI_sI, if_pos ⟨rfl, by omega⟩, ez1]
    · rw [gI_sI, if_neg (by omega), gI_sI, if_neg (by omega), oZ4.2.1 _ _ (by omega), gI_sI, if_pos ⟨rfl, by omega⟩, ez2]
    · rw [gI_sI, if_neg (by omega), gI_sI, if_pos ⟨rfl, rfl⟩]
    · rw [gI_sI, if_pos ⟨rfl, rfl⟩]
  · refine ⟨q2.trans (by rw [oB4.1]), fun a k z1 z2 => ?_, fun a k z => ?_⟩
    · rw [q3 _ _ (by omega)]
      exact oB4.2 a k (fun z => z1 ⟨z.1, Or.inl z.2⟩)
    · rw [q5 _ _ (fun y => z (by unfold inB; omega)), oB4.gL]
end L6
