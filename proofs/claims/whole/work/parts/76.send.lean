/-! SEND, ROUND -/
section SD
variable {p d f to m0 : Nat} {D : MK} {M1 M2 : Mem}
theorem poK {M' : Mem} (h : OnlyL inPo M1 M') (hr : Rel0 p d D M1 M2) : KeepC p M1 M' := by
  have hp := p_or hr
  exact ⟨h.CR hr.c, h.gR _ _, h.gR _ _, fun k => (h.2 1 (by unfold inPo; omega)).1 k, fun k => (h.2 2 (by unfold inPo; omega)).1 k, fun a q1 q2 => h.2 a (by unfold inPo; omega), fun k => (h.2 82 (by unfold inPo; omega)).1 k, fun a q1 q2 => h.2 a (by unfold inPo; omega)⟩
theorem poH {M' : Mem} (h : OnlyL inPo M1 M') (t : HourC M1 p D) (hW : WFD D) : HourC M' p D :=
  t.keep ⟨hW.n.2.1, hW.n.2.2, hW.n.1⟩ (h.gR _ _) (fun a q1 q2 k => (h.2 a (by unfold inPo; omega)).1 k)
/-- after n steps of the reference: the least minute, and by how few stalls -/
def StQ (D : MK) (f m0 to n : Nat) (c : Int32 × Int32) : Prop := c.2 = nI (sT D f m0 n to) ∧ ((sT D f m0 n to = 1000000 ∧ c.1 = -1) ∨ (sT D f m0 n to < kMi D ∧ ∃ h, h ≤ n ∧ c.1 = nI h ∧ ∀ n', sT D f m0 n' to ≤ sT D f m0 n to ↔ h ≤ n'))
def sdR (D : MK) (f m0 to : Nat) (x4 : Int32) (M' : Mem) (c : Int32 × Int32) : Option (Mem × Int32) := if sT D f m0 (kP D) to = 1000000 then some (M', -1) else if x4 = 0 then some (M', c.2) else some (M', c.1)
theorem send64 {M : Mem} (h : RC M D) (hf : f < kP D) (hto : to < kP D) (h0 : m0 < kMi D) (x4 : Int32) : ∀ n k M1 c, 1 ≤ k → k ≤ kP D + 1 → kP D + 1 < n + k → OnlyK in345 M M1 → TqS M1 D 34 (sT D f m0 (k - 1)) → StQ D f m0 to (k - 1) c → ∃ M' c', OnlyK in345 M M' ∧ StQ D f m0 to (kP D) c' ∧ f_X11_send_64 n M1 0 (nI f) (nI to) x4 c.1 c.2 (nI k) = sdR D f m0 to x4 M' c' := by
  have hW := h.2.1
  have hMi := hW.mi
  have hkP := hW.p
  have hP0 : 0 < kP D := by omega
  intro n
  induction n with
  | zero => intro k M1 c h1 h2 h3; omega
  | succ n ih =>
    intro k M1 c hk1 hk2 hk3 hO hT hc
    have h1 := h.on345 hO
    show ∃ M' c', _ ∧ _ ∧ s_X11_send_64 (f_X11_send_64 n) M1 0 (nI f) (nI to) x4 c.1 c.2 (nI k) = _
    unfold s_X11_send_64
    rw [oR, gd_t, rr_17 h1.1, bd_t, aB_l (i := 0) zR_7 (by decide), gd_t, h1.np]
    by_cases e : k = kP D + 1
    · subst e
      rw [Nat.add_sub_cancel] at hT hc
      refine ⟨M1, c, hO, hc, ?_⟩
      rw [if_pos (nI_lt (by omega) (by omega))]
      unfold sdR
      rcases hc.2 with ⟨z1, z2⟩ | ⟨z1, -⟩
      · rw [if_pos (by rw [hc.1, z1]; rfl), if_pos z1]
      · rw [if_neg (show ¬ c.2 = 1000000 by rw [hc.1]; exact nI_mil (by omega)), if_neg (show ¬ sT D f m0 (kP D) to = 1000000 by omega)]
    rw [if_neg (nI_nlt (by omega) (by omega))]
    obtain ⟨Ma, a1, a2, a3⟩ := goesOn_eq h1 hf hT
    have a3' : TqS Ma D 34 (sT D f m0 (k - 1 + 1)) := a3
    rw [show k - 1 + 1 = k by omega] at a3'
    have hv := a3' to hto
    have hv0 := hT to hto
    have hmo := sT_mono1 (f := f) (m0 := m0) hP0 hMi (n := k - 1) (q := to)
    rw [show k - 1 + 1 = k by omega] at hmo
    rw [a1, bd_t, rr_52 (a2.RR h1.1), bd_t, aB_t to zR_34 rfl (by omega) (by decide), gd_t, nI_clamp (by omega), hv.1, nI_1, hc.1]
    have key := fun c' hc' => ih (k + 1) Ma c' (by omega) (by omega) (by omega) (hO.tr a2) (by rw [Nat.add_sub_cancel]; exact a3') hc'
    rw [Nat.add_sub_cancel] at key
    by_cases q : sT D f m0 k to < sT D f m0 (k - 1) to
    · rw [if_pos (nI_lt q (by omega))]
      refine key (nI k, nI (sT D f m0 k to)) ⟨rfl, Or.inr ⟨by omega, k, Nat.le_refl _, rfl, fun n' => ⟨fun z => Nat.le_of_not_lt (fun y => ?_), fun z => ?_⟩⟩⟩
      · have := sT_mono (f := f) (m0 := m0) hP0 hMi (q := to) (k - 1 - n') n'
        rw [show n' + (k - 1 - n') = k - 1 by omega] at this
        omega
      · have := sT_mono (f := f) (m0 := m0) hP0 hMi (q := to) (n' - k) k
        rw [show k + (n' - k) = n' by omega] at this
        exact this
    · have eq : sT D f m0 k to = sT D f m0 (k - 1) to := by omega
      rw [if_neg (nI_nlt (by omega) (by omega))]
      have := key (c.1, nI (sT D f m0 (k - 1) to)) (by
        unfold StQ
        rw [eq]
        refine ⟨rfl, ?_⟩
        rcases hc.2 with z | ⟨z1, h, z2, z3⟩
        · exact Or.inl z
        · exact Or.inr ⟨z1, h, by omega, z3⟩)
      exact this
theorem eq_send {M1 M2 : Mem} (h : Rel M1 M2) (a b c x : Int32) : Same (f_X10_send M1 0 a b c x) (f_X11_send M2 0 a b c x) := by
  obtain ⟨p, d, D, h, hk⟩ := h
  have h' := h.r0
  have hn := h.ba
  unfold f_X10_send f_X11_send
  rw [oC_0, gd_t, h.g1, bd_t, h.oP, gd_t, oR, gd_t, nx_t, gP1 h, bd_t, gP2 h', bd_t]
  rcases ix_or a (kP D) (by omega) with z | ⟨f, hf, rfl⟩
  · rw [if_neg z, if_pos rfl, if_pos rfl]
    exact same_no h' hk _
  rw [if_pos (ix_in hf (by omega)), if_neg (show ¬ (1 : Int32) = 0 by decide), if_neg (show ¬ (1 : Int32) = 0 by decide), gP1 h, bd_t, gP2 h', bd_t]
  rcases ix_or b (kP D) (by omega) with z | ⟨to, hto, rfl⟩
  · rw [if_neg z, if_pos rfl, if_pos rfl]
    exact same_no h' hk _
  rw [if_pos (ix_in hto (by omega)), if_neg (show ¬ (1 : Int32) = 0 by decide), if_neg (show ¬ (1 : Int32) = 0 by decide)]
  by_cases hft : f = to
  · rw [if_pos (show nI f = nI to by rw [hft]), if_pos (show nI f = nI to by rw [hft])]
    exact same_no h' hk _
  have hft' : ¬ nI f = nI to := fun z => hft ((nI_eq (by omega) (by omega)).mp z)
  rw [if_neg hft', if_neg hft', gM1 h, bd_t, gM2 h', bd_t]
  rcases ix_or c (kMi D) (by omega) with z | ⟨m0, h0, rfl⟩
  · rw [if_neg z, if_pos rfl, if_pos rfl]
    exact same_no h' hk _
  rw [if_pos (ix_in h0 (by omega)), if_neg (show ¬ (1 : Int32) = 0 by decide), if_neg (show ¬ (1 : Int32) = 0 by decide), in_c 2 (by decide) (by decide), bd_t, rng x 2 (by decide) (by decide)]
  rcases ix_or x 2 (by decide) with z | ⟨j, hj, rfl⟩
  · rw [if_neg z, if_neg z, if_pos rfl]
    exact same_no h' hk _
  obtain ⟨Ma, t1, t2, t3⟩ := told_eq h' hk (show 0 < kMi D by omega)
  have ha := h'.kc t2
  obtain ⟨Mb, u1, u2, u3⟩ := bring_eq (hc_of ha t3) hf hft hto h0
  obtain ⟨Mc, v1, v2, v3, v4⟩ := sends_eq h'.r h.wf h'.rm hf h0
  obtain ⟨Md, c', w1, w2, w3⟩ := send64 v3 hf hto h0 (nI j) FU 1 Mc (-1, 1000000) (Nat.le_refl _) (by omega) (by unfold FU; omega) OnlyK.rf v4 (by
    have e : sT D f m0 (1 - 1) to = 1000000 := if_neg (fun z => hft z.symm)
    unfold StQ
    rw [e]
    exact ⟨rfl, Or.inl ⟨rfl, rfl⟩⟩)
  have hb := ha.kc (poK u2 ha)
  have hr : Rel Mb Md := ⟨p, d, D, hb.keepR (v2.tr (keep345 w1 v3.1)), Or.inr (poH u2 t3 h.wf)⟩
  rw [if_pos (ix_in hj (by decide)), if_pos (ix_in hj (by decide)), if_neg (show ¬ (1 : Int32) = 0 by decide), cr_0_9 h.c, bd_t, t1, bd_t]
  dsimp only
  rw [oC_84, gd_t, cr_84_0 ha.c, bd_t, zC_po, gd_t, u1, bd_t, cr_0_9 hb.c, bd_t, bd_t, zC_po, gd_t, gd_t, v1, bd_t]
  have w3' : f_X11_send_64 FU Mc 0 (nI f) (nI to) (nI j) (-1) 1000000 1 = _ := w3
  rw [w3']
  unfold sdR
  rcases u3 with ⟨z1, z2, z3⟩ | ⟨z1, z2, hh, z3, z4, z5⟩
  · rw [if_pos z1, z2, z3]
    split
    · exact ⟨_, _, _, rfl, rfl, hr⟩
    · exact ⟨_, _, _, rfl, rfl, hr⟩
  · rcases w2.2 with y | ⟨y1, h2, y2, y3, y4⟩
    · omega
    · have e : hh = h2 := by
        have h5 := (y4 hh).mp ((z5 hh).mpr (Nat.le_refl _))
        have h6 := (z5 h2).mp ((y4 h2).mpr (Nat.le_refl _))
        omega
      rw [if_neg (show ¬ sT D f m0 (kP D) to = 1000000 by omega), z2, z4, w2.1, y3, e]
      split
      · exact ⟨_, _, _, rfl, rfl, hr⟩
      · exact ⟨_, _, _, rfl, rfl, hr⟩
/-! round -/
def rlS (D : MK) (W : Nat → Nat) (q : Nat) (L : Nat) : Nat := if hoB D q = true ∧ L < W q then W q else L
theorem rlS_le {W : Nat → Nat} {x : Nat} : ∀ n k L, foS (rlS D W) n k L ≤ x ↔ L ≤ x ∧ ∀ q, k ≤ q → q < k + n → hoB D q = true → W q ≤ x
  | 0, k, L => ⟨fun z => ⟨z, fun q a b => by omega⟩, fun z => z.1⟩
  | n + 1, k, L => by
    show foS (rlS D W) n (k + 1) (rlS D W k L) ≤ x ↔ _
    rw [rlS_le n (k + 1)]
    have e : rlS D W k L ≤ x ↔ L ≤ x ∧ (hoB D k = true → W k ≤ x) := by
      unfold rlS
      by_cases c : hoB D k = true ∧ L < W k
      · rw [if_pos c]
        exact ⟨fun z => ⟨by omega, fun _ => z⟩, fun z => z.2 c.1⟩
      · rw [if_neg c]
        refine ⟨fun z => ⟨z, fun y => ?_⟩, fun z => z.1⟩
        have : ¬ L < W k := fun w => c ⟨y, w⟩
        omega
    rw [e]
    constructor
    · rintro ⟨⟨a1, a2⟩, a3⟩
      refine ⟨a1, fun q b1 b2 b3 => ?_⟩
      by_cases c : q = k
      · subst c
        exact a2 b3
      · exact a3 q (by omega) (by omega) b3
    · rintro ⟨a1, a2⟩
      exact ⟨⟨a1, a2 k (Nat.le_refl _) (by omega)⟩, fun q b1 b2 b3 => a2 q (by omega) (by omega) b3⟩
theorem round58 {M : Mem} (h : RC M D) {W : Nat → Nat} (hT : TqS M D 34 W) : ∀ n k L, k ≤ kP D → kP D < n + k → L ≤ 1000000 → f_X11_round_58 n M 0 (nI L) (nI k) = if foS (rlS D W) (kP D - k) k L = 1000000 then some (M, -1) else some (M, nI (foS (rlS D W) (kP D - k) k L)) := by
  have hW := h.2.1
  have hMi := hW.mi
  have hkP := hW.p
  intro n
  induction n with
  | zero => intro k L h1 h2; omega
  | succ n ih =>
    intro k L h1 h2 hL
    show s_X11_round_58 (f_X11_round_58 n) M 0 (nI L) (nI k) = _
    unfold s_X11_round_58
    rw [oR, gd_t, rr_17 h.1, bd_t, aB_l (i := 0) zR_7 (by decide), gd_t, h.np]
    by_cases e : k = kP D
    · subst e
      rw [if_pos (nI_le (Nat.le_refl _) (by omega)), Nat.sub_self]
      show (if nI L = 1000000 then some (M, -1) else some (M, nI L)) = if L = 1000000 then some (M, -1) else some (M, nI L)
      by_cases c : L = 1000000
      · rw [if_pos c, if_pos (show nI L = 1000000 by rw [c]; rfl)]
      · rw [if_neg c, if_neg (show ¬ nI L = 1000000 from fun z => c ((nI_eq (b := 1000000) (by omega) (by decide)).mp z))]
    have hk : k < kP D := by omega
    have hv := hT k hk
    obtain ⟨y, hy⟩ : ∃ y, kP D - k = y + 1 := ⟨kP D - k - 1, by omega⟩
    rw [if_neg (nI_ge hk (by omega)), isHost_eq h (by omega), bd_t, nI_1, hy]
    show _ = if foS (rlS D W) y (k + 1) (rlS D W k L) = 1000000 then some (M, -1) else some (M, nI (foS (rlS D W) y (k + 1) (rlS D W k L)))
    have key := fun L' hL' => ih (k + 1) L' (by omega) (by omega) hL'
    rw [show kP D - (k + 1) = y by omega] at key
    unfold rlS
    by_cases c : hoB D k = true
    case' neg =>
      rw [if_neg c, if_pos rfl, if_neg (show ¬ (hoB D k = true ∧ L < W k) from fun z => c z.1)]
      exact key L hL
    rw [if_pos c, if_neg (show ¬ (1 : Int32) = 0 by decide), rr_52 h.1, bd_t, aB_t k zR_34 rfl (by omega) (by decide), gd_t, nI_clamp (by omega), hv.1]
    by_cases c2 : L < W k
    · rw [if_neg (nI_ge c2 (by omega)), if_pos (show hoB D k = true ∧ L < W k from ⟨c, c2⟩)]
      exact key (W k) (by omega)
    · rw [if_pos (nI_le (by omega) (by omega)), if_neg (show ¬ (hoB D k = true ∧ L < W k) from fun z => c2 z.2)]
      exact key L hL
theorem round32 {M : Mem} (h : RC M D) (hf : f < kP D) (h0 : m0 < kMi D) : ∀ n k M1, k ≤ kP D → kP D < n + k → OnlyK in345 M M1 → TqS M1 D 34 (sT D f m0 k) → ∃ M', OnlyK in345 M M' ∧ TqS M' D 34 (sT D f m0 (kP D)) ∧ f_X11_round_32 n M1 0 (nI f) (nI m0) (nI k) = f_X11_round_58 FU M' 0 (nI m0) 0 := by
  have hW := h.2.1
  have hkP := hW.p
  intro n
  induction n with
  | zero => intro k M1 h1 h2; omega
  | succ n ih =>
    intro k M1 hk1 h2 hO hT
    have h1 := h.on345 hO
    show ∃ M', _ ∧ _ ∧ s_X11_round_32 (f_X11_round_32 n) M1 0 (nI f) (nI m0) (nI k) = _
    unfold s_X11_round_32
    rw [oR, gd_t, rr_17 h1.1, bd_t, aB_l (i := 0) zR_7 (by decide), gd_t, h1.np]
    by_cases e : k = kP D
    · subst e
      rw [if_pos (nI_le (Nat.le_refl _) (by omega))]
      exact ⟨M1, hO, hT, rfl⟩
    obtain ⟨Ma, a1, a2, a3⟩ := goesOn_eq h1 hf hT
    rw [if_neg (nI_ge (by omega) (by omega)), a1, bd_t, nI_1]
    exact ih (k + 1) Ma (by omega) (by omega) (hO.tr a2) a3
/-- the latest of them, buyer by buyer; none: one of them never -/
def rcS (D : MK) (f : Nat) (W : Nat → Nat) : Nat → Nat → Nat → Option Nat
  | 0, _, L => some L
  | n + 1, k, L => if kBy D k 0 = f then rcS D f W n (k + 1) L else if W (kBy D k 0) = 1000000 then none else rcS D f W n (k + 1) (max L (W (kBy D k 0)))
theorem round39 (h : Rel0 p d D M1 M2) (t : HourC M1 p D) (hf : f < kP D) (h0 : m0 < kMi D) : ∀ n k M L, k ≤ kNb D → kNb D < n + k → OnlyL inPo M1 M → L < kMi D → ∃ M', OnlyL inPo M1 M' ∧ f_X10_round_39 n M 0 (nI f) (nI m0) 85 (nI L) (nI k) = some (M', match rcS D f (sT D f m0 (kP D)) (kNb D - k) k L with | none => -1 | some L' => nI L') := by
  have hb := h.ba
  intro n
  induction n with
  | zero => intro k M L h1 h2; omega
  | succ n ih =>
    intro k M L h1 h2 hO hL
    have hr := h.kc (poK hO h)
    have ht := poH hO t h.wf
    show ∃ M', _ ∧ s_X10_round_39 (f_X10_round_39 n) M 0 (nI f) (nI m0) 85 (nI L) (nI k) = _
    unfold s_X10_round_39
    rw [oC_0, gd_t, hr.g1, bd_t, h.oP, gd_t, hr.cm.1.2.2.2.2.2]
    by_cases e : k = kNb D
    · subst e
      rw [if_pos (nI_le (Nat.le_refl _) (by omega)), Nat.sub_self]
      exact ⟨M, hO, rfl⟩
    have hk : k < kNb D := by omega
    have hby := h.wf.2.2.2.2.2.2 k hk
    obtain ⟨b1, b2, b3, b4, b5⟩ := by_rd hr hk
    obtain ⟨y, hy⟩ : ∃ y, kNb D - k = y + 1 := ⟨kNb D - k - 1, by omega⟩
    have key := fun M' L' hO' hL' => ih (k + 1) M' L' (by omega) (by omega) hO' hL'
    rw [show kNb D - (k + 1) = y by omega] at key
    rw [if_neg (nI_ge hk (by omega)), b1, bd_t, b2, gd_t, b3, bd_t, b4, gd_t, b5 0 (by decide), nI_1, hy, rcS]
    by_cases c : kBy D k 0 = f
    · rw [if_pos (by rw [c]), if_pos c]
      exact key M L hO hL
    rw [if_neg (fun z => c ((nI_eq (by omega) (by omega)).mp z)), if_neg c]
    obtain ⟨Mb, u1, u2, u3⟩ := bring_eq (hc_of hr ht) hf (fun z => c z.symm) hby.1 h0
    have hO2 := hO.tr u2
    rw [cr_0_9 hr.c, bd_t, zC_po, gd_t, u1, bd_t, cr_0_9 (hO2.CR h.c), bd_t, zC_po, gd_t]
    rcases u3 with ⟨z1, z2, z3⟩ | ⟨z1, z2, z3⟩
    · rw [if_pos z2, if_pos z1]
      exact ⟨Mb, hO2, rfl⟩
    · rw [if_neg (show ¬ gI Mb 146 0 = -1 by rw [z2]; exact ne_m1 (by omega)), if_neg (show ¬ sT D f m0 (kP D) (kBy D k 0) = 1000000 by omega), z2]
      have hmax : f_X20_max Mb (nI L) (nI (sT D f m0 (kP D) (kBy D k 0))) = some (nI (max L (sT D f m0 (kP D) (kBy D k 0)))) := by
        unfold f_X20_max
        by_cases q : L < sT D f m0 (kP D) (kBy D k 0)
        · rw [if_pos (nI_lt q (by omega)), Nat.max_eq_right (by omega)]
        · rw [if_neg (nI_nlt (by omega) (by omega)), Nat.max_eq_left (by omega)]
      rw [hmax, bd_t]
      exact key Mb _ hO2 (Nat.max_lt.mpr ⟨hL, z1⟩)
theorem rcS_some {W : Nat → Nat} (hW : W f = m0) : ∀ n k L L', m0 ≤ L → rcS D f W n k L = some L' → ∀ x, L' ≤ x ↔ L ≤ x ∧ ∀ b, k ≤ b → b < k + n → W (kBy D b 0) ≤ x
  | 0, k, L, L', _, h, x => by
    cases h
    exact ⟨fun z => ⟨z, fun b a1 a2 => by omega⟩, fun z => z.1⟩
  | n + 1, k, L, L', hm, h, x => by
    rw [rcS] at h
    have glue : ∀ {P : Nat → Prop}, (∀ b, k ≤ b → b < k + (n + 1) → P b) ↔ P k ∧ ∀ b, k + 1 ≤ b → b < k + 1 + n → P b := fun {P} =>
      ⟨fun z => ⟨z k (Nat.le_refl _) (by omega), fun b a1 a2 => z b (by omega) (by omega)⟩, fun z b a1 a2 => by
        by_cases e : b = k
        · rw [e]; exact z.1
        · exact z.2 b (by omega) (by omega)⟩
    rw [glue]
    by_cases c : kBy D k 0 = f
    · rw [if_pos c] at h
      rw [rcS_some hW n (k + 1) L L' hm h x, c, hW]
      exact ⟨fun z => ⟨z.1, by omega, z.2⟩, fun z => ⟨z.1, z.2.2⟩⟩
    · rw [if_neg c] at h
      by_cases c2 : W (kBy D k 0) = 1000000
      · rw [if_pos c2] at h
        cases h
      · rw [if_neg c2] at h
        rw [rcS_some hW n (k + 1) _ L' (Nat.le_trans hm (Nat.le_max_left _ _)) h x, Nat.max_le]
        exact ⟨fun z => ⟨z.1.1, z.1.2, z.2⟩, fun z => ⟨⟨z.1, z.2.1⟩, z.2.2⟩⟩
theorem rcS_none {W : Nat → Nat} : ∀ n k L, rcS D f W n k L = none → ∃ b, k ≤ b ∧ b < k + n ∧ W (kBy D b 0) = 1000000
  | 0, k, L, h => by cases h
  | n + 1, k, L, h => by
    rw [rcS] at h
    by_cases c : kBy D k 0 = f
    · rw [if_pos c] at h
      obtain ⟨b, b1, b2, b3⟩ := rcS_none n (k + 1) L h
      exact ⟨b, by omega, by omega, b3⟩
    · rw [if_neg c] at h
      by_cases c2 : W (kBy D k 0) = 1000000
      · exact ⟨k, Nat.le_refl _, by omega, c2⟩
      · rw [if_neg c2] at h
        obtain ⟨b, b1, b2, b3⟩ := rcS_none n (k + 1) _ h
        exact ⟨b, by omega, by omega, b3⟩
theorem rcS_lt {W : Nat → Nat} {N : Nat} (hv : ∀ b, W (kBy D b 0) < N ∨ W (kBy D b 0) = 1000000) : ∀ n k L L', L < N → rcS D f W n k L = some L' → L' < N
  | 0, k, L, L', hL, h => by
    cases h
    exact hL
  | n + 1, k, L, L', hL, h => by
    rw [rcS] at h
    by_cases c : kBy D k 0 = f
    · rw [if_pos c] at h
      exact rcS_lt hv n (k + 1) L L' hL h
    · rw [if_neg c] at h
      by_cases c2 : W (kBy D k 0) = 1000000
      · rw [if_pos c2] at h
        cases h
      · rw [if_neg c2] at h
        refine rcS_lt hv n (k + 1) _ L' ?_ h
        rcases hv k with z | z
        · exact Nat.max_lt.mpr ⟨hL, z⟩
        · exact absurd z c2
theorem eq_round {M1 M2 : Mem} (h : Rel M1 M2) (a c : Int32) : Same (f_X10_round M1 0 a c) (f_X11_round M2 0 a c) := by
  obtain ⟨p, d, D, h, hk⟩ := h
  have h' := h.r0
  have hn := h.ba
  unfold f_X10_round f_X11_round
  rw [oC_0, gd_t, h.g1, bd_t, h.oP, gd_t, oR, gd_t, nx_t, gP1 h, bd_t, gP2 h', bd_t]
  rcases ix_or a (kP D) (by omega) with z | ⟨f, hf, rfl⟩
  · rw [if_neg z, if_pos rfl, if_pos rfl]
    exact same_no h' hk _
  rw [if_pos (ix_in hf (by omega)), if_neg (show ¬ (1 : Int32) = 0 by decide), if_neg (show ¬ (1 : Int32) = 0 by decide), gM1 h, bd_t, gM2 h', bd_t]
  rcases ix_or c (kMi D) (by omega) with z | ⟨m0, h0, rfl⟩
  · rw [if_neg z, if_pos rfl, if_pos rfl]
    exact same_no h' hk _
  obtain ⟨Ma, t1, t2, t3⟩ := told_eq h' hk (show 0 < kMi D by omega)
  have ha := h'.kc t2
  have hP0 : 0 < kP D := by omega
  have hMi := h.wf.mi
  obtain ⟨Mb, u1, u2⟩ := round39 ha t3 hf h0 FU 0 Ma m0 (by omega) (by unfold FU; omega) OnlyL.rf h0
  obtain ⟨Mc, v1, v2, v3, v4⟩ := sends_eq h'.r h.wf h'.rm hf h0
  obtain ⟨Md, w1, w2, w3⟩ := round32 v3 hf h0 FU 0 Mc (by omega) (by unfold FU; omega) OnlyK.rf v4
  have x1 := round58 (v3.on345 w1) w2 FU 0 m0 (by omega) (by unfold FU; omega) (by omega)
  have hb := ha.kc (poK u1 ha)
  have hr : Rel Mb Md := ⟨p, d, D, hb.keepR (v2.tr (keep345 w1 v3.1)), Or.inr (poH u1 t3 h.wf)⟩
  rw [if_pos (ix_in h0 (by omega)), if_neg (show ¬ (1 : Int32) = 0 by decide), if_neg (show ¬ (1 : Int32) = 0 by decide), t1, bd_t]
  dsimp only
  rw [oC_84, gd_t, cr_84_0 ha.c, bd_t, v1, bd_t]
  have u2' : f_X10_round_39 FU Ma 0 (nI f) (nI m0) 85 (nI m0) 0 = _ := u2
  have w3' : f_X11_round_32 FU Mc 0 (nI f) (nI m0) 0 = _ := w3
  have x1' : f_X11_round_58 FU Md 0 (nI m0) 0 = _ := x1
  rw [u2', w3', x1', Nat.sub_zero, Nat.sub_zero]
  have hle := fun x => rlS_le (D := D) (W := sT D f m0 (kP D)) (x := x) (kP D) 0 m0
  have hv : ∀ q, sT D f m0 (kP D) q < kMi D ∨ sT D f m0 (kP D) q = 1000000 := fun q => sT_val hP0 hMi h0 _
  have hff := sT_f (f := f) hP0 hMi h0 (kP D)
  have hall : ∀ x, (∀ q, 0 ≤ q → q < 0 + kP D → hoB D q = true → sT D f m0 (kP D) q ≤ x) ↔ ∀ b, 0 ≤ b → b < 0 + kNb D → sT D f m0 (kP D) (kBy D b 0) ≤ x := fun x => by
    constructor
    · exact fun z b _ b2 => z _ (Nat.zero_le _) (by have := (h.wf.2.2.2.2.2.2 b (by omega)).1; omega) (hoB_iff.mpr ⟨b, by omega, rfl⟩)
    · intro z q _ q2 q3
      obtain ⟨b, b1, b2⟩ := hoB_iff.mp q3
      rw [← b2]
      exact z b (Nat.zero_le _) (by omega)
  cases hc : rcS D f (sT D f m0 (kP D)) (kNb D) 0 m0 with
  | none =>
    obtain ⟨b, b1, b2, b3⟩ := rcS_none _ _ _ hc
    have e1 : foS (rlS D (sT D f m0 (kP D))) (kP D) 0 m0 = 1000000 := by
      have z1 := ((hle _).mp (Nat.le_refl _)).2
      have z2 := (hall _).mp z1 b b1 b2
      have z3 := (hle 1000000).mpr ⟨by omega, fun q _ _ _ => by have := hv q; omega⟩
      omega
    rw [if_pos e1]
    exact ⟨_, _, _, rfl, rfl, hr⟩
  | some L' =>
    have hs := rcS_some hff _ _ _ _ (Nat.le_refl _) hc
    have hl := rcS_lt (fun b => hv _) _ _ _ _ h0 hc
    have e1 : foS (rlS D (sT D f m0 (kP D))) (kP D) 0 m0 = L' := by
      have z1 := (hle _).mp (Nat.le_refl _)
      have z2 := (hs _).mpr ⟨z1.1, (hall _).mp z1.2⟩
      have y1 := (hs _).mp (Nat.le_refl _)
      have y2 := (hle _).mpr ⟨y1.1, (hall _).mpr y1.2⟩
      omega
    rw [e1, if_neg (show ¬ L' = 1000000 by omega)]
    exact ⟨_, _, _, rfl, rfl, hr⟩
end SD
