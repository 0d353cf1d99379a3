/-! THE TURNS LAID, the reference -/
theorem tu162 {M : Mem} {m r v : Nat} (hR : RR M) (hm : m < 60) (hr : r < 3) (k22 : Mem → Nat → Int32 → Option Mem) (k34 : Mem → Nat → Int32 → Int32 → Option Mem) : f_X11_laysTurns_162 k22 k34 M 0 (nI m) (nI r) (nI v) = k34 (sI M 14 (60 * r + m) (nI v)) 0 (nI m) (nI (r + 1)) := by
  unfold f_X11_laysTurns_162
  rw [oR, gd_t, rr_24 hR, bd_t, show (60 : Int32) * nI r + nI m = nI (60 * r + m) by rw [show (60 : Int32) = nI 60 from rfl, pk_mul, nI_add], aB_t (60 * r + m) zR_14 rfl (by omega) (by decide), gd_t, nx_t, nI_clamp (by omega), nI_1]
theorem tu107 {M : Mem} {D : MK} {X : Nat → Int64} {m r : Nat} (hT : TuR M D X) (hr : r < kNr D) (hm : m < kMi D) (hc : gI M 15 r = nI (kTr D r m).2) (k22 : Mem → Nat → Int32 → Option Mem) (k34 : Mem → Nat → Int32 → Int32 → Option Mem) : ∃ M2, f_X11_laysTurns_107 k22 k34 M 0 (nI m) (nI r) (nI (kTr D r m).1) (if kSt D r m = 1 then 1 else 0) = k34 M2 0 (nI m) (nI (r + 1)) ∧ Only inT M M2 ∧ gI M2 15 r = nI (kTr D r (m + 1)).2 ∧ gI M2 14 (60 * r + m) = nI (kTn D r m) ∧ (∀ k, k ≠ r → gI M2 15 k = gI M 15 k) ∧ ∀ k, k ≠ 60 * r + m → gI M2 14 k = gI M 14 k := by
  obtain ⟨hR, -, hMi, hNr, hrg, -⟩ := hT
  have hg := hrg r hr
  have hle := kTr_le D r m
  unfold f_X11_laysTurns_107
  by_cases hs : kSt D r m = 1
  · have e : kTr D r (m + 1) = kTr D r m := by rw [kTr, if_pos hs]
    have e2 : kTn D r m = (kTr D r m).1 := by unfold kTn; rw [e]
    rw [if_pos hs, if_neg (by decide), tu162 hR (by omega) (by omega)]
    refine ⟨_, rfl, Only.rf.I (by unfold inT; omega), ?_, ?_, fun k hk => ?_, fun k hk => ?_⟩
    · rw [gI_sI, if_neg (by omega), hc, e]
    · rw [gI_sI, if_pos ⟨rfl, rfl⟩, e2]
    · rw [gI_sI, if_neg (by omega)]
    · rw [gI_sI, if_neg (by omega)]
  rw [if_neg hs, if_pos rfl, oR, gd_t, rr_18 hR, bd_t, show (2 : Int32) * nI r = nI (2 * r) by rw [show (2 : Int32) = nI 2 from rfl, pk_mul], aB_t (2 * r) zR_8 rfl (by omega) (by decide), gd_t, nI_clamp (by omega), hg.2, rr_29 hR, bd_t, aB_t r zR_15 rfl (by omega) (by decide), gd_t, nI_clamp (by omega), hc]
  -- a minute more in the turn that goes on
  have fin : ∀ (M1 : Mem) (c v : Nat), RR M1 → Only inT M M1 → gI M1 15 r = nI c → (∀ k, k ≠ r → gI M1 15 k = gI M 15 k) → (∀ k, gI M1 14 k = gI M 14 k) → kTr D r (m + 1) = (v, c + 1) → ∃ M2, f_X11_laysTurns_152 k22 k34 M1 0 (nI m) (nI r) (nI v) = k34 M2 0 (nI m) (nI (r + 1)) ∧ Only inT M M2 ∧ gI M2 15 r = nI (kTr D r (m + 1)).2 ∧ gI M2 14 (60 * r + m) = nI (kTn D r m) ∧ (∀ k, k ≠ r → gI M2 15 k = gI M 15 k) ∧ ∀ k, k ≠ 60 * r + m → gI M2 14 k = gI M 14 k := by
    intro M1 c v hR1 hO h1 h2 h3 e
    have e2 : kTn D r m = v := by unfold kTn; rw [e]
    unfold f_X11_laysTurns_152
    rw [oR, gd_t, rr_29 hR1, bd_t, aB_t r zR_15 rfl (by omega) (by decide), gd_t, nx_t, nI_clamp (by omega), h1, nI_1, tu162 hR1.I (by omega) (by omega)]
    refine ⟨_, rfl, (hO.I (by unfold inT; omega)).I (by unfold inT; omega), ?_, ?_, fun k hk => ?_, fun k hk => ?_⟩
    · rw [gI_sI, if_neg (by omega), gI_sI, if_pos ⟨rfl, rfl⟩, e]
    · rw [gI_sI, if_pos ⟨rfl, rfl⟩, e2]
    · rw [gI_sI, if_neg (by omega), gI_sI, if_neg (by omega)]
      exact h2 k hk
    · rw [gI_sI, if_neg (by omega), gI_sI, if_neg (by omega)]
      exact h3 k
  by_cases h0 : kRg D r 0 = 0
  · rw [if_pos (show nI (kRg D r 0) ≤ 0 by rw [h0]; decide)]
    exact fin M _ _ hR Only.rf hc (fun _ _ => rfl) (fun _ => rfl) (by rw [kTr, if_neg hs, if_neg (fun z => by omega)])
  · rw [if_neg (nI_nle (n := kRg D r 0) (by omega) (by omega))]
    by_cases h3 : (kTr D r m).2 = kRg D r 0
    · rw [if_pos (by rw [h3]), nx_t, nI_1]
      refine fin _ 0 _ hR.I (Only.rf.I (by unfold inT; omega)) (by rw [gI_sI, if_pos ⟨rfl, rfl⟩]; rfl) (fun k hk => by rw [gI_sI, if_neg (by omega)]) (fun k => by rw [gI_sI, if_neg (by omega)]) (by rw [kTr, if_neg hs, if_pos ⟨by omega, h3⟩])
    · rw [if_neg (fun z => h3 ((nI_eq (by omega) (by omega)).mp z))]
      exact fin M _ _ hR Only.rf hc (fun _ _ => rfl) (fun _ => rfl) (by rw [kTr, if_neg hs, if_neg (fun z => h3 z.2)])
theorem lays_r {M : Mem} {D : MK} {X : Nat → Int64} {m : Nat} (hT : TuR M D X) (hm : m < kMi D) (k22 : Mem → Nat → Int32 → Option Mem) :
    ∀ n r M', r ≤ kNr D → kNr D < n + r → OnlyX inT M M' → TuS M' D X m r → ∃ M'', f_X11_laysTurns_34 k22 n M' 0 (nI m) (nI r) = k22 M'' 0 (nI (m + 1)) ∧ OnlyX inT M M'' ∧ TuS M'' D X (m + 1) 0 := by
  intro n
  induction n with
  | zero => intro r M' h1 h2; omega
  | succ n ih =>
    intro r M' h1 h2 hO hS
    show ∃ M'', s_X11_laysTurns_34 k22 (f_X11_laysTurns_34 k22 n) M' 0 (nI m) (nI r) = _ ∧ _
    unfold s_X11_laysTurns_34
    have hT' := hT.only hO
    have hR := hT'.1
    have hMi := hT'.2.2.1
    have hNr := hT'.2.2.2.1
    obtain ⟨s1, s2, s3⟩ := hS
    rw [oR, gd_t, rr_17 hR, bd_t, aB_l (i := 2) zR_7 (by decide), gd_t, show gI M' 7 ((2 : Int32).toNatClampNeg) = nI (kNr D) from hT'.2.1.2]
    by_cases hk : r = kNr D
    · subst hk
      rw [if_pos (nI_le (Nat.le_refl _) (by omega)), nI_1]
      refine ⟨M', rfl, hO, fun z => ?_, fun q hq => ?_, fun q hq j hj => s3 q hq j (by omega)⟩
      · rw [s1 z, Nat.add_mul, Nat.one_mul, Nat.add_zero]
      · rw [s2 q hq, if_pos hq, if_neg (by omega)]
    have hr : r < kNr D := by omega
    rw [if_neg (nI_ge hr (by omega))]
    have hcnt : gI M' 15 r = nI (kTr D r m).2 := by rw [s2 r hr, if_neg (by omega)]
    obtain ⟨ln, sr, sf, st, hl, hst⟩ := hT'.2.2.2.2.2.2
    have hst' := hst r m hr hm
    -- behind the draw: x stands, the stuck lines are asked
    have fin : ∀ (M1 : Mem) (b : Bool), OnlyX inT M' M1 → (∀ a k, gI M1 a k = gI M' a k) → (¬ gI M' 0 27 = -1 → gL M1 0 28 = X (m * kNr D + (r + 1))) → (b = true ↔ (¬ gI M' 0 27 = -1 ∧ drawX (X (m * kNr D + r + 1)) (gI M' 0 27) = true)) → ∃ M'', f_X11_laysTurns_86 k22 (f_X11_laysTurns_34 k22 n) M1 0 (nI m) (nI r) (nI (kTr D r m).1) (if b then 1 else 0) = k22 M'' 0 (nI (m + 1)) ∧ OnlyX inT M M'' ∧ TuS M'' D X (m + 1) 0 := by
      intro M1 b hO1 g1 hx hb
      have hT1 := hT'.only hO1
      have hl1 : StL M1 ln sr sf st := ⟨hl.1, by rw [g1]; exact hl.2.1, fun i hi => by rw [g1, g1, g1]; exact hl.2.2 i hi⟩
      have hs1 := isStuck_eq hT1.1 hl1 (r := r) (m := m) (by omega) (by omega)
      rw [g1, g1] at hs1
      have step : ∃ M'', f_X11_laysTurns_107 k22 (f_X11_laysTurns_34 k22 n) M1 0 (nI m) (nI r) (nI (kTr D r m).1) (if kSt D r m = 1 then 1 else 0) = k22 M'' 0 (nI (m + 1)) ∧ OnlyX inT M M'' ∧ TuS M'' D X (m + 1) 0 := by
        obtain ⟨M2, e, o2, q1, q2, q3, q4⟩ := tu107 hT1 hr hm (by rw [g1]; exact hcnt) k22 (f_X11_laysTurns_34 k22 n)
        rw [e]
        have z27 : gI M2 0 27 = gI M' 0 27 := by rw [o2.2 0 (by unfold inT; omega), g1]
        refine ih (r + 1) M2 (by omega) (by omega) (hO.tr (hO1.tr o2.toX)) ⟨fun z => ?_, fun q hq => ?_, fun q hq j hj => ?_⟩
        · rw [o2.gL]
          exact hx (by rw [← z27]; exact z)
        · by_cases e1 : q = r
          · subst e1
            rw [q1, if_pos (by omega)]
          · rw [q3 q e1, g1, s2 q hq]
            by_cases e2 : q < r
            · rw [if_pos e2, if_pos (by omega)]
            · rw [if_neg e2, if_neg (by omega)]
        · by_cases e1 : q = r ∧ j = m
          · obtain ⟨rfl, rfl⟩ := e1
            exact q2
          · rw [q4 _ (by omega), g1]
            exact s3 q hq j (by omega)
      unfold f_X11_laysTurns_86
      rw [oR, gd_t, hs1, bd_t]
      by_cases c1 : (∃ i, i < ln ∧ sr i = r ∧ sf i ≤ m ∧ m ≤ st i) ∨ (nI r = gI M' 0 25 ∧ ¬ nI m < gI M' 0 26)
      · rw [if_pos c1, if_neg (by decide)]
        rw [if_pos (hst'.mpr (Or.inl c1))] at step
        exact step
      · rw [if_neg c1, if_pos rfl]
        by_cases c2 : b = true
        · rw [if_pos c2, if_neg (by decide)]
          rw [if_pos (hst'.mpr (Or.inr (hb.mp c2)))] at step
          exact step
        · rw [if_neg c2, if_pos rfl]
          rw [if_neg (fun z => (hst'.mp z).elim c1 (fun y => c2 (hb.mpr y)))] at step
          exact step
    have f65 : ∃ M'', f_X11_laysTurns_65 k22 (f_X11_laysTurns_34 k22 n) M' 0 (nI m) (nI r) (nI (kTr D r m).1) = k22 M'' 0 (nI (m + 1)) ∧ OnlyX inT M M'' ∧ TuS M'' D X (m + 1) 0 := by
      unfold f_X11_laysTurns_65
      rw [oR, gd_t]
      by_cases ho : gI M' 0 27 = -1
      · rw [if_pos ho]
        have := fin M' false OnlyX.rf (fun _ _ => rfl) (fun z => absurd ho z) (by simp [ho])
        exact this
      · rw [if_neg ho, isDrawn_eq, bd_t]
        have hx1 : stepX (gL M' 0 28) = X (m * kNr D + r + 1) := by rw [s1 ho, hT'.2.2.2.2.2.1]
        have := fin (sL M' 0 28 (stepX (gL M' 0 28))) (drawX (stepX (gL M' 0 28)) (gI M' 0 27)) OnlyX.rf.x (fun _ _ => rfl) (fun _ => by rw [gL_sL, if_pos ⟨rfl, rfl⟩, hx1, Nat.add_assoc]) (by rw [hx1]; simp [ho])
        by_cases hd : drawX (stepX (gL M' 0 28)) (gI M' 0 27) = true
        · rw [if_pos hd] at this ⊢
          rw [if_neg (show ¬ (1 : Int32) = 0 by decide)]
          exact this
        · rw [if_neg hd] at this ⊢
          rw [if_pos rfl]
          exact this
    by_cases hm0 : m = 0
    · subst hm0
      rw [if_pos (by rfl)]
      exact f65
    · rw [if_neg (nI_ne0 (by omega) (by omega)), rr_24 hR, bd_t]
      have ei : (60 : Int32) * nI r + nI m - 1 = nI (60 * r + (m - 1)) := by
        rw [show (60 : Int32) = nI 60 from rfl, pk_mul, nI_add, show 60 * r + m = 60 * r + (m - 1) + 1 by omega, nI_pred]
      rw [ei, aB_t (60 * r + (m - 1)) zR_14 rfl (by omega) (by decide), gd_t, nx_t, nI_clamp (by omega), s3 r hr (m - 1) (by omega)]
      have ek : kTn D r (m - 1) = (kTr D r m).1 := by unfold kTn; rw [show m - 1 + 1 = m by omega]
      rw [ek]
      exact f65
theorem lays_m {M : Mem} {D : MK} {X : Nat → Int64} (hT : TuR M D X) :
    ∀ n m M', m ≤ kMi D → kMi D < n + m → OnlyX inT M M' → TuS M' D X m 0 → ∃ M'', f_X11_laysTurns_22 n M' 0 (nI m) = some M'' ∧ OnlyX inT M M'' ∧ TuS M'' D X (kMi D) 0 := by
  intro n
  induction n with
  | zero => intro m M' h1 h2; omega
  | succ n ih =>
    intro m M' h1 h2 hO hS
    show ∃ M'', s_X11_laysTurns_22 (f_X11_laysTurns_22 n) M' 0 (nI m) = some M'' ∧ _
    unfold s_X11_laysTurns_22
    have hT' := hT.only hO
    have hR := hT'.1
    have hMi := hT'.2.2.1
    have hNr := hT'.2.2.2.1
    rw [oR, gd_t, rr_17 hR, bd_t, aB_l (i := 1) zR_7 (by decide), gd_t, show gI M' 7 ((1 : Int32).toNatClampNeg) = nI (kMi D) from hT'.2.1.1]
    by_cases hk : m = kMi D
    · subst hk
      rw [if_pos (nI_le (Nat.le_refl _) (by omega))]
      exact ⟨M', rfl, hO, hS⟩
    rw [if_neg (nI_ge (by omega) (by omega))]
    obtain ⟨M2, e, o2, s2⟩ := lays_r hT' (m := m) (by omega) (f_X11_laysTurns_22 n) FU 0 M' (by omega) (by unfold FU; omega) OnlyX.rf hS
    rw [show (0 : Int32) = nI 0 from rfl, e]
    exact ih (m + 1) M2 (by omega) (by omega) (hO.tr o2) s2
theorem lays_eq {M : Mem} {D : MK} {X : Nat → Int64} (hT : TuR M D X) (hx : ¬ gI M 0 27 = -1 → gL M 0 28 = X 0) : ∃ M', f_X11_laysTurns M 0 = some M' ∧ OnlyX inT M M' ∧ ∀ r, r < kNr D → ∀ m, m < kMi D → gI M' 14 (60 * r + m) = nI (kTn D r m) := by
  have hNr := hT.2.2.2.1
  have hMi := hT.2.2.1
  have key : ∀ n k M', k ≤ 3 → 3 < n + k → Only inT M M' → (∀ q, q < k → gI M' 15 q = 0) → ∃ M'', f_X11_laysTurns_2 n M' 0 (nI k) = some M'' ∧ OnlyX inT M M'' ∧ TuS M'' D X (kMi D) 0 := by
    intro n
    induction n with
    | zero => intro k M' h1 h2; omega
    | succ n ih =>
      intro k M' h1 h2 hO hz
      show ∃ M'', s_X11_laysTurns_2 (f_X11_laysTurns_2 n) M' 0 (nI k) = some M'' ∧ _
      unfold s_X11_laysTurns_2
      by_cases hk : k = 3
      · subst hk
        rw [if_pos (by decide), show (0 : Int32) = nI 0 from rfl]
        obtain ⟨M2, e, o2, s2⟩ := lays_m (hT.only hO.toX) FU 0 M' (by omega) (by unfold FU; omega) OnlyX.rf ⟨fun z => by
          rw [hO.gL, hO.2 0 (by unfold inT; omega)] at *
          rw [Nat.zero_mul]
          exact hx z, fun q hq => by rw [hz q (by omega), if_neg (by omega)]; rfl, fun q hq j hj => by omega⟩
        exact ⟨M2, e, hO.toX.tr o2, s2⟩
      have hR := hO.RR hT.1
      rw [if_neg (show ¬ (3 : Int32) ≤ nI k from nI_ge (b := 3) (by omega) (by decide)), oR, gd_t, rr_29 hR, bd_t, aB_t k zR_15 rfl (by omega) (by decide), gd_t, nx_t, nI_clamp (by omega), nI_1]
      exact ih (k + 1) _ (by omega) (by omega) (hO.I (by unfold inT; omega)) (fun q hq => by
        rw [gI_sI]
        by_cases e : q = k
        · rw [if_pos ⟨rfl, e⟩]
        · rw [if_neg (by omega)]
          exact hz q (by omega))
  obtain ⟨M', e, o, s⟩ := key FU 0 M (by omega) (by unfold FU; omega) Only.rf (fun q hq => by omega)
  exact ⟨M', e, o, fun r hr m hm => s.2.2 r hr m (by omega)⟩
