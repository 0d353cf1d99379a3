/-! THEFT and COUNT -/
theorem cmp_neg (x y : Int64) : lg_cmp x y < 0 ↔ x < y := by
  unfold lg_cmp
  by_cases h : x > y
  · rw [if_pos h]
    constructor
    · intro z; exact absurd z (by decide)
    · intro z; exact (Int64.lt_irrefl (Int64.lt_trans z h)).elim
  · rw [if_neg h]
    by_cases h2 : x = y
    · rw [if_pos h2]
      subst h2
      exact ⟨fun z => absurd z (by decide), fun z => (Int64.lt_irrefl z).elim⟩
    · rw [if_neg h2]
      refine ⟨fun _ => ?_, fun _ => by decide⟩
      exact Int64.lt_of_le_of_ne (Int64.not_lt.mp h) h2
theorem allG {τ : Type} {F : Nat → Int32 → τ} {g : Nat → Bool} {N : Nat} {T E : τ} (step : ∀ n k, k < N → F (n + 1) (nI k) = if g k then F n (nI (k + 1)) else E) (stop : ∀ n, F (n + 1) (nI N) = T) : ∀ n k, k ≤ N → N < n + k → F n (nI k) = if allB g (N - k) k then T else E := by
  intro n
  induction n with
  | zero => intro k h1 h2; omega
  | succ n ih =>
    intro k h1 h2
    by_cases hk : k = N
    · subst hk
      rw [stop, Nat.sub_self]
      rfl
    · obtain ⟨d, hd⟩ : ∃ d, N - k = d + 1 := ⟨N - k - 1, by omega⟩
      rw [step n k (by omega), hd, allB]
      by_cases hf : g k = true
      · rw [if_pos hf, ih (k + 1) (by omega) (by omega), show N - (k + 1) = d by omega, hf, Bool.true_and]
      · rw [if_neg hf, Bool.eq_false_iff.mpr hf, Bool.false_and]
        rfl
theorem left_last {D : MK} (h0 : 0 < kMi D) {s : Nat} (hs : s < kNs D) : hrS D (kMi D) 11 s (kMi D - 1) = hrS D (kMi D) 1 s 0 := by
  obtain ⟨m, hm⟩ : ∃ m, kMi D = m + 1 := ⟨kMi D - 1, by omega⟩
  rw [hm, Nat.add_sub_cancel]
  show clS D m _ 11 s m = clS D m _ 1 s 0
  unfold clS
  rw [if_neg (by omega), if_pos ⟨rfl, hs, rfl⟩, if_neg (by omega), if_neg (by omega), if_neg (by omega)]
def inW20 (M2 : Mem) (j k : Nat) : Bool := decide (0 ≤ gL M2 3 (60 * j + k)) && decide (gL M2 3 (60 * j + k) ≤ 20)
theorem within_eq {M1 M2 : Mem} {j n : Nat} (hC : CR M1) (hj : j < 4) (hn : n ≤ 60) (r6 : gI M1 (266 + 2 * j) 2 = nI n) (r8 : ∀ i, i < n → gL M1 (267 + 2 * j) i = gL M2 3 (60 * j + i)) : f_X8_isWithin M1 (266 + 2 * j) 0 20 = some (if allB (inW20 M2 j) n 0 then 1 else 0) := by
  have zr := zC_rw j hj
  have crj := cr_rw hC hj
  have key := allF (F := fun x k => f_X8_isWithin_2 M1 x (266 + 2 * j) 0 20 k) (g := inW20 M2 j) (N := n) (fun x k hk => by
    show s_X8_isWithin_2 M1 (f_X8_isWithin_2 M1 x) (266 + 2 * j) 0 20 (nI k) = _
    unfold s_X8_isWithin_2 inW20
    rw [zr.2.1, gd_t, r6, if_neg (nI_ge hk (by omega)), crj.2, bd_t, aB_t k zr.2.2.2 rfl (by omega) (by decide), gd_t, nx_t, nx_t, nI_clamp (by omega), r8 k hk, nI_1, show (0 : Int32).toInt64 = 0 from rfl, show (20 : Int32).toInt64 = 20 from rfl]
    by_cases c0 : gL M2 3 (60 * j + k) < 0
    · rw [if_pos ((cmp_neg _ _).mpr c0), decide_eq_false (Int64.not_le.mpr c0), Bool.false_and]
      rfl
    · rw [if_neg (fun z => c0 ((cmp_neg _ _).mp z)), decide_eq_true (Int64.not_lt.mp c0), Bool.true_and]
      by_cases c1 : (20 : Int64) < gL M2 3 (60 * j + k)
      · rw [if_neg (Int32.not_le.mpr ((cmp_pos _ _).mpr c1)), decide_eq_false (Int64.not_le.mpr c1)]
        rfl
      · rw [if_pos (Int32.not_lt.mp (fun z => c1 ((cmp_pos _ _).mp z))), decide_eq_true (Int64.not_lt.mp c1)]
        rfl) (fun x => by
    show s_X8_isWithin_2 M1 (f_X8_isWithin_2 M1 x) (266 + 2 * j) 0 20 (nI n) = _
    unfold s_X8_isWithin_2
    rw [zr.2.1, gd_t, r6, if_pos (nI_le (Nat.le_refl _) (by omega))])
  exact key FU 0 (by omega) (by unfold FU; omega)
def thG (off : Nat → Int32) (k : Nat) (c : Int32 × Int32 × Int32) : Int32 × Int32 × Int32 := if off k ≤ 0 then c else (c.1 + 1, (if c.2.1 = -1 then nI k else c.2.1), c.2.2 + off k)
def thR (M : Mem) (x : Int32) (c : Int32 × Int32 × Int32) : Option (Mem × Int32) := if x = 0 then some (M, c.1) else if x = 1 then some (M, c.2.1) else some (M, c.2.2)
def ofS (D : MK) (M2 : Mem) (j k : Nat) : Int32 := nI (hrS D (kMi D) 1 k 0) - (gL M2 3 (60 * j + k)).toInt32
theorem thefts1 {p d : Nat} {D : MK} {M1 M2 : Mem} (h : Rel0 p d D M1 M2) (t : HourC M1 p D) (h0 : 0 < kMi D) {j n : Nat} {x : Int32} (hj : j < 4) (hn : n = kNs D) (r8 : ∀ i, i < n → gL M1 (267 + 2 * j) i = gL M2 3 (60 * j + i)) : f_X10_thefts_17 FU M1 0 (266 + 2 * j) x 84 0 (-1) 0 0 = thR M1 x (foS (thG (ofS D M2 j)) (kNs D) 0 (0, -1, 0)) := by
  have hb := h.ba
  have zr := zC_rw j hj
  have crj := cr_rw h.c hj
  have key := fold_loop (F := fun n c k => f_X10_thefts_17 n M1 0 (266 + 2 * j) x 84 c.1 c.2.1 c.2.2 k) (g := thG (ofS D M2 j)) (N := kNs D) (R := thR M1 x) (fun n c k hk => by
    show s_X10_thefts_17 (f_X10_thefts_17 n) M1 0 (266 + 2 * j) x 84 c.1 c.2.1 c.2.2 (nI k) = _
    have hl := t.2.2.2.2.2.1 k hk (kMi D - 1) (by omega)
    rw [left_last h0 hk] at hl
    unfold s_X10_thefts_17 thG ofS
    rw [oC_0, gd_t, h.g1, bd_t, h.oP, gd_t, h.cm.1.2.2.2.2.1, if_neg (nI_ge hk (by omega)), oC_84, gd_t, cr_84_2 h.c, bd_t, aB_t k zC_108 rfl (by omega) (by decide), gd_t, nI_clamp (n := k) (by omega), cr_lf h.c (by omega), bd_t, h.cm.1.2.1, show nI (kMi D) - 1 = nI (kMi D - 1) from pk_sub (b := 1) (by omega), aB_t (kMi D - 1) (zC_a k (by omega)).2.1 rfl (by omega) (by decide), gd_t, nx_t, nI_clamp (n := kMi D - 1) (by omega), hl, zr.2.1, gd_t, crj.2, bd_t, aB_t k zr.2.2.2 rfl (by omega) (by decide), gd_t, nx_t, r8 k (by omega), nI_1]
    by_cases q : nI (hrS D (kMi D) 1 k 0) - (gL M2 3 (60 * j + k)).toInt32 ≤ 0
    · rw [if_pos q, if_pos q]
    · rw [if_neg q, if_neg q]
      unfold f_X10_thefts_78
      dsimp only
      by_cases q2 : c.2.1 = -1
      · rw [if_pos q2, if_pos q2, nI_1]
      · rw [if_neg q2, if_neg q2, nI_1]) (fun n c => by
    show s_X10_thefts_17 (f_X10_thefts_17 n) M1 0 (266 + 2 * j) x 84 c.1 c.2.1 c.2.2 (nI (kNs D)) = _
    unfold s_X10_thefts_17
    rw [oC_0, gd_t, h.g1, bd_t, h.oP, gd_t, h.cm.1.2.2.2.2.1, if_pos (nI_le (Nat.le_refl _) (by omega))]
    rfl)
  exact key FU (0, -1, 0) 0 (by omega) (by unfold FU; omega)
theorem thefts2 {D : MK} {M2 : Mem} (u : RE M2 D) {j : Nat} {x : Int32} (hj : j < 4) : f_X11_theft_122 FU M2 0 (nI j) x 0 (-1) 0 0 = thR M2 x (foS (thG (ofS D M2 j)) (kNs D) 0 (0, -1, 0)) := by
  have hb := u.1.2.1.n
  have key := fold_loop (F := fun n c k => f_X11_theft_122 n M2 0 (nI j) x c.1 c.2.1 c.2.2 k) (g := thG (ofS D M2 j)) (N := kNs D) (R := thR M2 x) (fun n c k hk => by
    show s_X11_theft_122 (f_X11_theft_122 n) M2 0 (nI j) x c.1 c.2.1 c.2.2 (nI k) = _
    unfold s_X11_theft_122 thG ofS
    rw [oR, gd_t, rr_17 u.1.1, bd_t, aB_l (i := 3) zR_7 (by decide), gd_t, u.1.ns, if_neg (nI_ge hk (by omega)), rr_30 u.1.1, bd_t, aB_t k zR_16 rfl (by omega) (by decide), gd_t, rr_3 u.1.1, bd_t, m60, aB_t (60 * j + k) zR_3 rfl (by omega) (by decide), gd_t, nx_t, nx_t, nI_clamp (n := k) (by omega), (u.2.1.2.1 k hk).1, nI_clamp (n := 60 * j + k) (by omega), nI_1]
    by_cases q : nI (hrS D (kMi D) 1 k 0) - (gL M2 3 (60 * j + k)).toInt32 ≤ 0
    · rw [if_neg (Int32.not_lt.mpr q), if_pos q]
    · rw [if_pos (Int32.not_le.mp q), if_neg q]
      unfold f_X11_theft_180
      dsimp only
      by_cases q2 : c.2.1 = -1
      · rw [if_pos q2, if_pos q2, nI_1]
      · rw [if_neg q2, if_neg q2, nI_1]) (fun n c => by
    show s_X11_theft_122 (f_X11_theft_122 n) M2 0 (nI j) x c.1 c.2.1 c.2.2 (nI (kNs D)) = _
    unfold s_X11_theft_122
    rw [oR, gd_t, rr_17 u.1.1, bd_t, aB_l (i := 3) zR_7 (by decide), gd_t, u.1.ns, if_pos (nI_le (Nat.le_refl _) (by omega))]
    rfl)
  exact key FU (0, -1, 0) 0 (by omega) (by unfold FU; omega)
theorem eq_theft {M1 M2 : Mem} (h : Rel M1 M2) (a b : Int32) : Same (f_X10_theft M1 0 a b) (f_X11_theft M2 0 a b) := by
  obtain ⟨p, d, D, h, hk⟩ := h
  have h' := h.r0
  have hb := h.ba
  unfold f_X10_theft f_X11_theft
  rw [oR, gd_t, nx_t, isSlot1, bd_t, isSlot2, bd_t]
  rcases ix_or a 4 (by decide) with z | ⟨j, hj, rfl⟩
  · rw [if_neg z, if_pos rfl, if_pos rfl]
    exact same_no h' hk _
  rw [if_pos (ix_in hj (by decide)), if_neg (show ¬ (1 : Int32) = 0 by decide), if_neg (show ¬ (1 : Int32) = 0 by decide), oC_0, gd_t, h.g1, bd_t, h.oP, gd_t, gT1 h, bd_t, gT2 h', bd_t, in_c 3 (by decide) (by decide), bd_t, rngC b 3 (hi := 2) (by decide) (by decide)]
  rcases Nat.eq_zero_or_pos (kLn D) with hl | hl
  · rw [if_neg (show ¬ 0 < kLn D by omega), if_pos rfl, if_pos rfl]
    split
    · exact same_no h' hk _
    · exact same_no h' hk _
  rw [if_pos hl, if_neg (show ¬ (1 : Int32) = 0 by decide), if_neg (show ¬ (1 : Int32) = 0 by decide)]
  rcases ix_or b 3 (by decide) with z | ⟨x, hx, rfl⟩
  · rw [if_neg z, if_neg z, if_pos rfl]
    exact same_no h' hk _
  have zr := zC_rw j hj
  have crj := cr_rw h.c hj
  rw [if_pos (ix_in hx (by decide)), if_pos (ix_in hx (by decide)), if_neg (show ¬ (1 : Int32) = 0 by decide), cr_0_5 h.c, bd_t, aB_t j zC_83 rfl hj (by decide), gd_t, nI_clamp (n := j) (by omega), crj.1, bd_t, zr.2.1, gd_t, rr_1 h'.r, bd_t, aB_t j zR_1 rfl hj (by decide), gd_t]
  rcases h'.rw' j hj with ⟨r1, r2⟩ | ⟨r1, w, n, r2, r3, r4, r5, r6, r7, r8⟩
  · rw [r1, r2, if_pos rfl, if_pos rfl]
    exact same_no h' hk _
  rw [r1, r5, if_neg (show ¬ (1 : Int32) = 0 by decide), if_neg (ne_m1 (by omega)), rr_2 h'.r, bd_t, aB_t j zR_2 rfl hj (by decide), gd_t, rr_17 h'.r, bd_t, aB_l (i := 3) zR_7 (by decide), gd_t, r6, r7, h.cm.1.2.2.2.2.1, show gI (sI M2 0 0 0) 7 ((3 : Int32).toNatClampNeg) = nI (kNs D) from h'.rm.1.1.2.2.2.2.1]
  by_cases en : n = kNs D
  case' neg =>
    rw [if_neg (fun z => en ((nI_eq (by omega) (by omega)).mp z)), if_neg (fun z => en ((nI_eq (by omega) (by omega)).mp z))]
    exact same_no h' hk _
  rw [if_pos (by rw [en]), if_pos (by rw [en]), within_eq h.c hj r3 r6 r8, bd_t]
  obtain ⟨M1', M2', t1, u1, h2, t3, u3, sm, sl⟩ := bothHk h' hk (told_p h hl).1
  have loop := allG (F := fun x' k => f_X11_theft_67 x' (sI M2 0 0 0) 0 (nI j) (nI x) k) (g := inW20 (sI M2 0 0 0) j) (N := kNs D) (T := thR M2' (nI x) (foS (thG (ofS D M2' j)) (kNs D) 0 (0, -1, 0))) (E := some (sI M2 0 0 0, -2)) (fun x' k hk' => by
    show s_X11_theft_67 (f_X11_theft_67 x') (sI M2 0 0 0) 0 (nI j) (nI x) (nI k) = _
    unfold s_X11_theft_67 inW20
    rw [oR, gd_t, rr_17 h'.r, bd_t, aB_l (i := 3) zR_7 (by decide), gd_t, show gI (sI M2 0 0 0) 7 ((3 : Int32).toNatClampNeg) = nI (kNs D) from h'.rm.1.1.2.2.2.2.1, if_neg (nI_ge hk' (by omega)), rr_3 h'.r, bd_t, m60, aB_t (60 * j + k) zR_3 rfl (by omega) (by decide), gd_t, nx_t, in_eq, bd_t, nI_clamp (n := 60 * j + k) (by omega), nI_1]
    by_cases q : 0 ≤ gL (sI M2 0 0 0) 3 (60 * j + k) ∧ gL (sI M2 0 0 0) 3 (60 * j + k) ≤ 20
    · rw [if_pos q, if_neg (show ¬ (1 : Int32) = 0 by decide), decide_eq_true q.1, decide_eq_true q.2]
      rfl
    · rw [if_neg q, if_pos rfl, if_neg (fun z => q (by simpa using z))]) (fun x' => by
    show s_X11_theft_67 (f_X11_theft_67 x') (sI M2 0 0 0) 0 (nI j) (nI x) (nI (kNs D)) = _
    unfold s_X11_theft_67
    rw [oR, gd_t, rr_17 h'.r, bd_t, aB_l (i := 3) zR_7 (by decide), gd_t, show gI (sI M2 0 0 0) 7 ((3 : Int32).toNatClampNeg) = nI (kNs D) from h'.rm.1.1.2.2.2.2.1, if_pos (nI_le (Nat.le_refl _) (by omega)), u1, bd_t]
    exact thefts2 u3 hj)
  have l2 := loop FU 0 (by omega) (by unfold FU; omega)
  rw [Nat.sub_zero] at l2
  rw [show f_X11_theft_67 FU (sI M2 0 0 0) 0 (nI j) (nI x) 0 = _ from l2, ← en]
  by_cases ok : allB (inW20 (sI M2 0 0 0) j) n 0 = true
  case' neg =>
    rw [if_neg ok, if_neg ok, if_pos rfl]
    exact same_no h' hk _
  rw [if_pos ok, if_pos ok, if_neg (show ¬ (1 : Int32) = 0 by decide)]
  unfold f_X10_thefts
  rw [oC_0, gd_t, t1, bd_t]
  dsimp only
  rw [thefts1 h2 t3 (told_p h hl).1 hj en (fun i hi => by
    rw [(sm _ (by omega) (by omega)).2, sl]
    exact r8 i hi), en]
  unfold thR
  rcases j3 hx with rfl | rfl | rfl
  · rw [if_pos (show nI 0 = 0 from rfl), if_pos (show nI 0 = 0 from rfl), bd_t]
    exact same_at h2 t3 _
  · rw [if_neg (show ¬ nI 1 = 0 by decide), if_pos (show nI 1 = 1 from rfl), if_neg (show ¬ nI 1 = 0 by decide), if_pos (show nI 1 = 1 from rfl), bd_t]
    exact same_at h2 t3 _
  · rw [if_neg (show ¬ nI 2 = 0 by decide), if_neg (show ¬ nI 2 = 1 by decide), if_neg (show ¬ nI 2 = 0 by decide), if_neg (show ¬ nI 2 = 1 by decide), bd_t]
    exact same_at h2 t3 _
/-! count -/
def skM (D : MK) (r : Nat) : Nat → Nat
  | 0 => 0
  | m + 1 => skM D r m + if kSt D r m = 1 then 1 else 0
theorem skM_s {D : MK} {r m : Nat} : skM D r (m + 1) = skM D r m + if kSt D r m = 1 then 1 else 0 := rfl
def skS (D : MK) : Nat → Nat
  | 0 => 0
  | r + 1 => skS D r + skM D r (kMi D)
theorem skS_s {D : MK} {r : Nat} : skS D (r + 1) = skS D r + skM D r (kMi D) := rfl
theorem pcB_sk {x : Int64} {D : MK} {r : Nat} (h : ∀ m, m < 64 → bitL x m = (kSt D r m == 1)) : ∀ n, n ≤ 64 → pcB x n = skM D r n
  | 0, _ => rfl
  | n + 1, hn => by
    show pcB x n + (if bitL x n then 1 else 0) = _
    rw [pcB_sk h n (by omega), h n (by omega), skM_s]
    simp only [beq_iff_eq]
theorem skM_z {D : MK} {r n : Nat} (h : ∀ m, n ≤ m → kSt D r m = 0) : ∀ d, skM D r (n + d) = skM D r n
  | 0 => rfl
  | d + 1 => by
    rw [← Nat.add_assoc, skM_s, skM_z h d, h (n + d) (by omega)]
    rfl
theorem stuckMin_eq {p d : Nat} {D : MK} {M1 M2 : Mem} (h : Rel0 p d D M1 M2) : f_X4_stuckMinutes M1 p = some (nI (skS D (kNr D))) := by
  have hb := h.ba
  have key := acc_loop (F := fun n c k => f_X4_stuckMinutes_4 M1 n p c k) (A := fun k => nI (skS D k)) (N := kNr D) (R := some) (fun n k hk => by
    show s_X4_stuckMinutes_4 M1 (f_X4_stuckMinutes_4 M1 n) p _ (nI k) = _
    obtain ⟨g1, g2, g3, g4⟩ := rg_rd h hk
    have e64 : pcB (gL M1 (p + 4 + k) 2) 64 = skM D k (kMi D) := by
      rw [pcB_sk (h.cm.2.1 k hk).2.2 64 (Nat.le_refl _), show 64 = kMi D + (64 - kMi D) by omega]
      exact skM_z (fun m hm => h.st k m hk hm) _
    unfold s_X4_stuckMinutes_4
    rw [h.oP, gd_t, h.cm.1.2.2.2.1, if_neg (nI_ge hk (by omega)), g1, bd_t, g2, gd_t, g3, bd_t, g4, gd_t, bitCount_eq, bd_t, e64, skS_s, nI_1, nI_add]) (fun n => by
    show s_X4_stuckMinutes_4 M1 (f_X4_stuckMinutes_4 M1 n) p _ _ = _
    unfold s_X4_stuckMinutes_4
    rw [h.oP, gd_t, h.cm.1.2.2.2.1, if_pos (nI_le (Nat.le_refl _) (by omega))])
  exact key FU 0 (by omega) (by unfold FU; omega)
theorem isStuck_pl {D : MK} {M : Mem} (hR : RR M) (hW : WFD D) (hm : RM M 0 D) (h25 : gI M 0 25 = -1) {r m : Nat} (hr : r < kNr D) (hmi : m < kMi D) : f_X11_isStuck M 0 (nI r) (nI m) = some (if kSt D r m = 1 then 1 else 0) := by
  obtain ⟨-, n, sr, sf, st, g1, g2, g3, g4⟩ := hm
  have hN := hW.n
  have hMi := hW.mi
  rw [isStuck_eq (n := n) (sr := sr) (sf := sf) (st := st) hR ⟨g1, by simpa using g2, fun i hi => by simpa using g3 i hi⟩ (by omega) (by omega), h25]
  congr 1
  by_cases q : kSt D r m = 1
  · rw [if_pos q, if_pos (Or.inl ((g4 r m hr hmi).mp q))]
  · rw [if_neg q, if_neg (fun z => by
      rcases z with z | z
      · exact q ((g4 r m hr hmi).mpr z)
      · exact ne_m1 (by omega) z.1)]
theorem count98 {D : MK} {M : Mem} (hR : RR M) (hW : WFD D) (hm : RM M 0 D) (h25 : gI M 0 25 = -1) {r b : Nat} (hr : r < kNr D) (k85 : Mem → Nat → Int32 → Int32 → Option (Mem × Int32)) : f_X11_count_98 k85 FU M 0 (nI b) (nI r) 0 = k85 M 0 (nI (b + skM D r (kMi D))) (nI (r + 1)) := by
  have hMi := hW.mi
  have e1 : gI M 7 ((1 : Int32).toNatClampNeg) = nI (kMi D) := hm.1.1.2.1
  have key := acc_loop (F := fun n c k => f_X11_count_98 k85 n M 0 c (nI r) k) (A := fun k => nI (b + skM D r k)) (N := kMi D) (R := fun c => k85 M 0 c (nI (r + 1))) (fun n k hk => by
    show s_X11_count_98 k85 (f_X11_count_98 k85 n) M 0 _ (nI r) (nI k) = _
    unfold s_X11_count_98
    rw [oR, gd_t, rr_17 hR, bd_t, aB_l (i := 1) zR_7 (by decide), gd_t, e1, if_neg (nI_ge hk (by omega)), isStuck_pl hR hW hm h25 hr hk, bd_t, skM_s]
    by_cases q : kSt D r k = 1
    · rw [if_pos q, if_neg (show ¬ (1 : Int32) = 0 by decide), if_pos q, nI_1, nI_1]
      rfl
    · rw [if_neg q, if_pos rfl, if_neg q, Int32.add_zero, nI_1]
      rfl) (fun n => by
    show s_X11_count_98 k85 (f_X11_count_98 k85 n) M 0 _ (nI r) (nI (kMi D)) = _
    unfold s_X11_count_98
    rw [oR, gd_t, rr_17 hR, bd_t, aB_l (i := 1) zR_7 (by decide), gd_t, e1, if_pos (nI_le (Nat.le_refl _) (by omega)), nI_1])
  exact key FU 0 (by omega) (by unfold FU; omega)
theorem count85 {D : MK} {M : Mem} (hR : RR M) (hW : WFD D) (hm : RM M 0 D) (h25 : gI M 0 25 = -1) : f_X11_count_85 FU M 0 0 0 = some (M, nI (skS D (kNr D))) := by
  have hN := hW.n
  have e1 : gI M 7 ((2 : Int32).toNatClampNeg) = nI (kNr D) := hm.1.1.2.2.2.1
  have key := acc_loop (F := fun n c k => f_X11_count_85 n M 0 c k) (A := fun k => nI (skS D k)) (N := kNr D) (R := fun c => some (M, c)) (fun n k hk => by
    show s_X11_count_85 (f_X11_count_85 n) M 0 _ (nI k) = _
    unfold s_X11_count_85
    rw [oR, gd_t, rr_17 hR, bd_t, aB_l (i := 2) zR_7 (by decide), gd_t, e1, if_neg (nI_ge hk (by omega)), count98 hR hW hm h25 hk, skS_s]) (fun n => by
    show s_X11_count_85 (f_X11_count_85 n) M 0 _ _ = _
    unfold s_X11_count_85
    rw [oR, gd_t, rr_17 hR, bd_t, aB_l (i := 2) zR_7 (by decide), gd_t, e1, if_pos (nI_le (Nat.le_refl _) (by omega))])
  exact key FU 0 (by omega) (by unfold FU; omega)
def rtS (M : Mem) : Nat → Nat
  | 0 => 0
  | j + 1 => rtS M j + if gI M (266 + 2 * j) 0 = 0 then 0 else 1
theorem rtS_s {M : Mem} {j : Nat} : rtS M (j + 1) = rtS M j + if gI M (266 + 2 * j) 0 = 0 then 0 else 1 := rfl
theorem rowsThere_eq {p d : Nat} {D : MK} {M1 M2 : Mem} (h : Rel0 p d D M1 M2) : f_X10_rowsThere M1 0 = some (nI (rtS M1 4)) := by
  have key := acc_loop (F := fun n c k => f_X10_rowsThere_13 M1 n c 83 (nI 4) k) (A := fun k => nI (rtS M1 k)) (N := 4) (R := some) (fun n k hk => by
    show s_X10_rowsThere_13 M1 (f_X10_rowsThere_13 M1 n) _ 83 (nI 4) (nI k) = _
    unfold s_X10_rowsThere_13
    rw [if_neg (nI_ge hk (by omega)), aB_t k zC_83 rfl hk (by decide), gd_t, nI_clamp (by omega), (cr_rw h.c hk).1, bd_t, (zC_rw k hk).2.1, gd_t, rtS_s]
    by_cases q : gI M1 (266 + 2 * k) 0 = 0
    · rw [if_pos q, if_pos q, nI_1]
      rfl
    · rw [if_neg q, if_neg q, nI_1, nI_1]) (fun n => by
    show s_X10_rowsThere_13 M1 (f_X10_rowsThere_13 M1 n) _ 83 (nI 4) (nI 4) = _
    unfold s_X10_rowsThere_13
    rw [if_pos (by decide)])
  unfold f_X10_rowsThere
  rw [oC_0, gd_t, cr_0_5 h.c, bd_t, show oB shC 83 108 = true by decide +kernel, gd_t, zC_83]
  exact key FU 0 (by decide) (by unfold FU; decide)
theorem count143 {p d : Nat} {D : MK} {M1 M2 : Mem} (h : Rel0 p d D M1 M2) : f_X11_count_143 FU M2 0 0 0 = some (M2, nI (rtS M1 4)) := by
  have key := acc_loop (F := fun n c k => f_X11_count_143 n M2 0 c k) (A := fun k => nI (rtS M1 k)) (N := 4) (R := fun c => some (M2, c)) (fun n k hk => by
    show s_X11_count_143 (f_X11_count_143 n) M2 0 _ (nI k) = _
    unfold s_X11_count_143
    rw [if_neg (show ¬ (4 : Int32) ≤ nI k from nI_ge (b := 4) hk (by decide)), oR, gd_t, rr_1 h.r, bd_t, aB_t k zR_1 rfl hk (by decide), gd_t, nI_clamp (by omega), rtS_s]
    rcases h.rw' k hk with ⟨r1, r2⟩ | ⟨r1, w, n, r2, r3, r4, r5, -⟩
    · rw [r2, if_pos rfl, if_pos r1, Int32.add_zero, nI_1]
      rfl
    · rw [r5, if_neg (ne_m1 (by omega)), if_neg (by rw [r1]; decide), nI_1, nI_1]) (fun n => by
    show s_X11_count_143 (f_X11_count_143 n) M2 0 _ (nI 4) = _
    unfold s_X11_count_143
    rw [if_pos (by decide)])
  exact key FU 0 (by decide) (by unfold FU; decide)
theorem eqV_count {M1 M2 : Mem} (h : Rel M1 M2) (a : Int32) : SameV M1 (f_X10_count M1 0 a) (f_X11_count M2 0 a) := by
  obtain ⟨p, d, D, h, hk⟩ := h
  have h' := h.r0
  obtain ⟨L, -, l2, l3, -⟩ := h'.tp
  unfold f_X10_count f_X11_count
  rw [oR, gd_t, nx_t]
  rcases ix_or a 9 (by decide) with z | ⟨j, hj, rfl⟩
  · rw [if_neg (show ¬ a = 0 from ne_out z (k := 0) (by decide) (by decide)), if_neg (show ¬ a = 1 from ne_out z (k := 1) (by decide) (by decide)), if_neg (show ¬ a = 2 from ne_out z (k := 2) (by decide) (by decide)), if_neg (show ¬ a = 3 from ne_out z (k := 3) (by decide) (by decide)), if_neg (show ¬ a = 4 from ne_out z (k := 4) (by decide) (by decide)), if_neg (show ¬ a = 5 from ne_out z (k := 5) (by decide) (by decide)), if_neg (show ¬ a = 6 from ne_out z (k := 6) (by decide) (by decide)), if_neg (show ¬ a = 7 from ne_out z (k := 7) (by decide) (by decide)), if_neg (show ¬ a = 8 from ne_out z (k := 8) (by decide) (by decide)), if_neg (show ¬ a = 0 from ne_out z (k := 0) (by decide) (by decide)), if_neg (show ¬ a = 1 from ne_out z (k := 1) (by decide) (by decide)), if_neg (show ¬ a = 2 from ne_out z (k := 2) (by decide) (by decide)), if_neg (show ¬ a = 3 from ne_out z (k := 3) (by decide) (by decide)), if_neg (show ¬ a = 4 from ne_out z (k := 4) (by decide) (by decide)), if_neg (show ¬ a = 5 from ne_out z (k := 5) (by decide) (by decide)), if_neg (show ¬ a = 6 from ne_out z (k := 6) (by decide) (by decide)), if_neg (show ¬ a = 7 from ne_out z (k := 7) (by decide) (by decide)), if_neg (show ¬ a = 8 from ne_out z (k := 8) (by decide) (by decide))]
    exact sv_no h' hk _
  have hj' : j = 0 ∨ j = 1 ∨ j = 2 ∨ j = 3 ∨ j = 4 ∨ j = 5 ∨ j = 6 ∨ j = 7 ∨ j = 8 := by omega
  have m := h.cm.1
  have q := h'.rm.1.1
  rcases hj' with rfl | rfl | rfl | rfl | rfl | rfl | rfl | rfl | rfl
  · rw [if_pos (show nI 0 = 0 from rfl), if_pos (show nI 0 = 0 from rfl), oC_0, gd_t, h.g1, bd_t, h.oP, gd_t, m.1, rr_17 h'.r, bd_t, aB_l (i := nI 0) zR_7 (by decide), gd_t, show gI (sI M2 0 0 0) 7 ((nI 0).toNatClampNeg) = nI (kP D) from q.1]
    exact sv_no h' hk _
  · rw [if_neg (show ¬ nI 1 = 0 by decide), if_pos (show nI 1 = 1 from rfl), if_neg (show ¬ nI 1 = 0 by decide), if_pos (show nI 1 = 1 from rfl), oC_0, gd_t, h.g1, bd_t, h.oP, gd_t, m.2.1, rr_17 h'.r, bd_t, aB_l (i := nI 1) zR_7 (by decide), gd_t, show gI (sI M2 0 0 0) 7 ((nI 1).toNatClampNeg) = nI (kMi D) from q.2.1]
    exact sv_no h' hk _
  · rw [if_neg (show ¬ nI 2 = 0 by decide), if_neg (show ¬ nI 2 = 1 by decide), if_pos (show nI 2 = 2 from rfl), if_neg (show ¬ nI 2 = 0 by decide), if_neg (show ¬ nI 2 = 1 by decide), if_pos (show nI 2 = 2 from rfl), oC_0, gd_t, h.g1, bd_t, h.oP, gd_t, m.2.2.2.1, rr_17 h'.r, bd_t, aB_l (i := nI 2) zR_7 (by decide), gd_t, show gI (sI M2 0 0 0) 7 ((nI 2).toNatClampNeg) = nI (kNr D) from q.2.2.2.1]
    exact sv_no h' hk _
  · rw [if_neg (show ¬ nI 3 = 0 by decide), if_neg (show ¬ nI 3 = 1 by decide), if_neg (show ¬ nI 3 = 2 by decide), if_pos (show nI 3 = 3 from rfl), if_neg (show ¬ nI 3 = 0 by decide), if_neg (show ¬ nI 3 = 1 by decide), if_neg (show ¬ nI 3 = 2 by decide), if_pos (show nI 3 = 3 from rfl), oC_0, gd_t, h.g1, bd_t, h.oP, gd_t, m.2.2.2.2.1, rr_17 h'.r, bd_t, aB_l (i := nI 3) zR_7 (by decide), gd_t, show gI (sI M2 0 0 0) 7 ((nI 3).toNatClampNeg) = nI (kNs D) from q.2.2.2.2.1]
    exact sv_no h' hk _
  · rw [if_neg (show ¬ nI 4 = 0 by decide), if_neg (show ¬ nI 4 = 1 by decide), if_neg (show ¬ nI 4 = 2 by decide), if_neg (show ¬ nI 4 = 3 by decide), if_pos (show nI 4 = 4 from rfl), if_neg (show ¬ nI 4 = 0 by decide), if_neg (show ¬ nI 4 = 1 by decide), if_neg (show ¬ nI 4 = 2 by decide), if_neg (show ¬ nI 4 = 3 by decide), if_pos (show nI 4 = 4 from rfl), oC_0, gd_t, h.g1, bd_t, h.oP, gd_t, m.2.2.2.2.2, rr_17 h'.r, bd_t, aB_l (i := nI 4) zR_7 (by decide), gd_t, show gI (sI M2 0 0 0) 7 ((nI 4).toNatClampNeg) = nI (kNb D) from q.2.2.2.2.2]
    exact sv_no h' hk _
  · rw [if_neg (show ¬ nI 5 = 0 by decide), if_neg (show ¬ nI 5 = 1 by decide), if_neg (show ¬ nI 5 = 2 by decide), if_neg (show ¬ nI 5 = 3 by decide), if_neg (show ¬ nI 5 = 4 by decide), if_pos (show nI 5 = 5 from rfl), if_neg (show ¬ nI 5 = 0 by decide), if_neg (show ¬ nI 5 = 1 by decide), if_neg (show ¬ nI 5 = 2 by decide), if_neg (show ¬ nI 5 = 3 by decide), if_neg (show ¬ nI 5 = 4 by decide), if_pos (show nI 5 = 5 from rfl), oC_0, gd_t, h.g1, bd_t, h.oP, gd_t, m.2.2.1, rr_16 h'.r, bd_t, aB_l (i := 0) zR_6 (by decide), gd_t, show gI (sI M2 0 0 0) 6 ((0 : Int32).toNatClampNeg) = nI (kLn D) from q.2.2.1]
    exact sv_no h' hk _
  · rw [if_neg (show ¬ nI 6 = 0 by decide), if_neg (show ¬ nI 6 = 1 by decide), if_neg (show ¬ nI 6 = 2 by decide), if_neg (show ¬ nI 6 = 3 by decide), if_neg (show ¬ nI 6 = 4 by decide), if_neg (show ¬ nI 6 = 5 by decide), if_pos (show nI 6 = 6 from rfl), if_neg (show ¬ nI 6 = 0 by decide), if_neg (show ¬ nI 6 = 1 by decide), if_neg (show ¬ nI 6 = 2 by decide), if_neg (show ¬ nI 6 = 3 by decide), if_neg (show ¬ nI 6 = 4 by decide), if_neg (show ¬ nI 6 = 5 by decide), if_pos (show nI 6 = 6 from rfl), oC_0, gd_t, cr_0_0 h.c, bd_t, oC_1, gd_t, l2, l3]
    exact sv_no h' hk _
  · have hp := h'.keepR (plM_k h'.r)
    rw [if_neg (show ¬ nI 7 = 0 by decide), if_neg (show ¬ nI 7 = 1 by decide), if_neg (show ¬ nI 7 = 2 by decide), if_neg (show ¬ nI 7 = 3 by decide), if_neg (show ¬ nI 7 = 4 by decide), if_neg (show ¬ nI 7 = 5 by decide), if_neg (show ¬ nI 7 = 6 by decide), if_pos (show nI 7 = 7 from rfl), if_neg (show ¬ nI 7 = 0 by decide), if_neg (show ¬ nI 7 = 1 by decide), if_neg (show ¬ nI 7 = 2 by decide), if_neg (show ¬ nI 7 = 3 by decide), if_neg (show ¬ nI 7 = 4 by decide), if_neg (show ¬ nI 7 = 5 by decide), if_neg (show ¬ nI 7 = 6 by decide), if_pos (show nI 7 = 7 from rfl), oC_0, gd_t, h.g1, bd_t, h.oP, gd_t, stuckMin_eq h, bd_t, plainly_eq, bd_t, count85 hp.r h.wf hp.rm (by unfold plM; rw [gI_sI, if_neg (by omega), gI_sI, if_pos ⟨rfl, rfl⟩])]
    exact sv_no hp hk _
  · rw [if_neg (show ¬ nI 8 = 0 by decide), if_neg (show ¬ nI 8 = 1 by decide), if_neg (show ¬ nI 8 = 2 by decide), if_neg (show ¬ nI 8 = 3 by decide), if_neg (show ¬ nI 8 = 4 by decide), if_neg (show ¬ nI 8 = 5 by decide), if_neg (show ¬ nI 8 = 6 by decide), if_neg (show ¬ nI 8 = 7 by decide), if_pos (show nI 8 = 8 from rfl), if_neg (show ¬ nI 8 = 0 by decide), if_neg (show ¬ nI 8 = 1 by decide), if_neg (show ¬ nI 8 = 2 by decide), if_neg (show ¬ nI 8 = 3 by decide), if_neg (show ¬ nI 8 = 4 by decide), if_neg (show ¬ nI 8 = 5 by decide), if_neg (show ¬ nI 8 = 6 by decide), if_neg (show ¬ nI 8 = 7 by decide), if_pos (show nI 8 = 8 from rfl), oC_0, gd_t, rowsThere_eq h, bd_t, count143 h']
    exact sv_no h' hk _
