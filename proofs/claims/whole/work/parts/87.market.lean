/-! A MARKET READ -/
section L8
variable {L : Nat} {B : Nat → Int32} {d n : Nat} {D : MK} {M1 M2 M1' M2' : Mem}
theorem sign_sp {P : Prop} (h : SP L B n P M1 M2) (k95 : Mem → Option (Mem × Int32)) : ∃ M1' M2', f_X6_sign M1 1 = some M1' ∧ (bd (f_X11_isGood M2 0) fun v2 => if v2 = 0 then k95 M2 else bd (f_X11_ends M2 0) fun u3 => k95 u3) = k95 M2' ∧ OnT kC M1 M1' ∧ OnN kN M2 M2' ∧ SP L B (n + 1) P M1' M2' := by
  rcases h with ⟨hG, hP⟩ | hB
  · obtain ⟨M1', M2', a1, a2, a3, a4, a5⟩ := sign_st (Or.inl hG) k95
    exact ⟨M1', M2', a1, a2, a3, a4, a5.elim (fun z => Or.inl ⟨z, hP⟩) Or.inr⟩
  · obtain ⟨M1', r1, r2, r3⟩ := hB.next
    refine ⟨M1', M2, ?_, ?_, r2, OnN.rf, Or.inr r3⟩
    · unfold f_X6_sign
      rw [oC_1, gd_t, hB.refuse, bd_t, r1, bd_t]
      split <;> rfl
    · unfold f_X11_isGood
      rw [oR, gd_t, if_neg hB.n, bd_t, if_pos rfl]
def KpF (d : Nat) (M M' : Mem) : Prop := M'.2.2 = M.2.2 ∧ (∀ a k, ¬ (a = 1 ∧ (kC k ∨ k = 8)) → ¬ inB d a → gI M' a k = gI M a k) ∧ ∀ a k, ¬ inB d a → gL M' a k = gL M a k
def KpG (M M' : Mem) : Prop := M'.2.2 = M.2.2 ∧ (∀ a k, ¬ (a = 0 ∧ kN k) → ¬ slR 4 a k → gI M' a k = gI M a k) ∧ ∀ a k, ¬ (a = 0 ∧ k = 11) → gL M' a k = gL M a k
theorem KpC.F (h : KpC d M1 M1') : KpF d M1 M1' := ⟨h.1, fun a k q r => h.2.1 a k q (fun z => absurd z r), h.2.2⟩
theorem KpR.G (h : KpR M2 M2') : KpG M2 M2' := ⟨h.1, fun a k q r => h.2.1 a k q (fun z => absurd z r), h.2.2⟩
theorem KpF.tr {M'' : Mem} (h : KpF d M1 M1') (h' : KpF d M1' M'') : KpF d M1 M'' := ⟨h'.1.trans h.1, fun a k q r => (h'.2.1 a k q r).trans (h.2.1 a k q r), fun a k q => (h'.2.2 a k q).trans (h.2.2 a k q)⟩
theorem KpG.tr {M'' : Mem} (h : KpG M2 M2') (h' : KpG M2' M'') : KpG M2 M'' := ⟨h'.1.trans h.1, fun a k q r => (h'.2.1 a k q r).trans (h.2.1 a k q r), fun a k q => (h'.2.2 a k q).trans (h.2.2 a k q)⟩
theorem KpF.I {a k : Nat} {v : Int32} (h : KpF d M1 M1') (ha : inB d a) : KpF d M1 (sI M1' a k v) := ⟨h.1, fun b j q r => by
  rw [gI_sI, if_neg (fun z => r (by rw [z.1]; exact ha))]
  exact h.2.1 b j q r, h.2.2⟩
theorem KpG.I {a k : Nat} {v : Int32} (h : KpG M2 M2') (ha : slR 4 a k) : KpG M2 (sI M2' a k v) := ⟨h.1, fun b j q r => by
  rw [gI_sI, if_neg (fun z => r (by rw [z.1, z.2]; exact ha))]
  exact h.2.1 b j q r, h.2.2⟩
theorem l72_n {M M' : Mem} (h : f_X11_fails M 0 1 = some M') (g : ¬ gI M' 0 12 = 0) : f_X11_line_72 M 0 (-1) = some M' := by
  unfold f_X11_line_72 f_X11_line_83 f_X11_line_97 f_X11_line_112 f_X11_line_127
  rw [if_pos rfl, oR, gd_t, h, bd_t, if_neg (by decide), if_neg (by decide), if_neg (by decide), if_neg (by decide), l146_bad g]
theorem is_inj {w w' : Int64} (h : f_X11_is M2 0 w = some 1) (h' : f_X11_is M2 0 w' = some 1) : w = w' := by
  have key : ∀ u, f_X11_is M2 0 u = some 1 → gL M2 0 11 = u := fun u hu => by
    unfold f_X11_is at hu
    rw [oR, gd_t] at hu
    by_cases c1 : gI M2 0 12 = 0
    · rw [if_pos c1] at hu
      by_cases c2 : gI M2 0 8 = 1
      · rw [if_pos c2] at hu
        by_cases c3 : lg_cmp (gL M2 0 11) u = 0
        · exact (cmp_eq _ _).mp c3
        · rw [if_neg c3] at hu
          exact absurd (Option.some.inj hu) (by decide)
      · rw [if_neg c2] at hu
        exact absurd (Option.some.inj hu) (by decide)
    · rw [if_neg c1] at hu
      exact absurd (Option.some.inj hu) (by decide)
  exact (key w h).symm.trans (key w' h')
/-- from a line's end to the next line's beginning -/
theorem end_line {ln : Nat} (hd : d = 3 ∨ d = 42) (h1 : gI M1 d 2 = nI ln) (h2 : gI M2 6 4 = nI ln) (h : LnE L B n d ln M1 M2 M1' M2') (k13 : Mem → Nat → Option (Mem × Int32)) : ∃ Ma Mb, f_X6_readLine_105 M1' 1 d = some Ma ∧ f_X11_market_84 k13 M2' 0 = k13 Mb 0 ∧ SP L B (n + 1) (∃ D', MkR d D' Ma Mb ∧ kLn D' = ln + 1) Ma Mb ∧ KpF d M1 Ma ∧ KpG M2 Mb := by
  have hdm : d ∈ MB := by rcases hd with rfl | rfl <;> decide
  have ms := mb_sh d hdm
  obtain ⟨hS, kc, kr⟩ := h
  have c2 : gI M1' d 2 = nI ln := by rw [kc.2.1 _ _ (by omega) (fun _ => ⟨rfl, rfl⟩), h1]
  have r4 : gI M2' 6 4 = nI ln := by rw [kr.2.1 _ _ (by omega) (fun _ => ⟨rfl, rfl⟩), h2]
  obtain ⟨Ms, Mt, a1, a2, a3, a4, a5⟩ := sign_sp hS (fun M => f_X11_market_95 k13 M 0)
  have cs : gI Ms d 2 = nI ln := by rw [a3.2 _ _ (by omega), c2]
  have rs : gI Mt 6 4 = nI ln := by rw [a4.2.1 _ _ (by omega), r4]
  refine ⟨sI Ms d 2 (nI (ln + 1)), sI Mt 6 4 (nI (ln + 1)), ?_, ?_, ?_, (kc.F.tr (KpC.T a3).F).I (by unfold inB; omega), (kr.G.tr (KpR.N a4).G).I sl_6⟩
  · unfold f_X6_readLine_105
    rw [oC_1, gd_t, a1, bd_t, ms.1, gd_t, nx_t, cs, nI_1]
  · unfold f_X11_market_84
    rw [oR, gd_t]
    refine Eq.trans a2 ?_
    show f_X11_market_95 k13 Mt 0 = _
    unfold f_X11_market_95
    rw [oR, gd_t, rr_16 a5.r, bd_t, aB_l (i := 4) zR_6 (by decide), gd_t, nx_t, show (4 : Int32).toNatClampNeg = 4 from rfl, rs, nI_1]
  · refine ((a5.w1 (by omega)).w2 (by decide)).im (fun ⟨D', z1, z2⟩ => ⟨D', z1.keep hd a3.w a4.w, z2⟩)
theorem line_step {a e t : Nat} (hd : d = 3 ∨ d = 42) (h : MkR d D M1 M2) (hll : kLn D < 2000) (ha : n ≤ a) (hG : PG L B M1 M2 a e t) (k13 : Mem → Nat → Option (Mem × Int32)) : ∃ Ma Mb, f_X6_readLine M1 1 d = some Ma ∧ (bd (gR M2 0 16) fun r3 => gd (aB shR r3 0 4) <| if (gI M2 r3 (4 : Int32).toNatClampNeg) = 0 then bd (f_X11_asks M2 0 187429700) fun u6 => bd (gR u6 0 17) fun r7 => bd (f_X11_number_ u6 0 235981828 2 12) fun u8 => gd (aB shR r7 0 24) <| nx (sI u8.1 r7 (24 : Int32).toNatClampNeg u8.2) fun M10 => bd (gR M10 0 17) fun r11 => bd (f_X11_number_ M10 0 5173474771 1 60) fun u12 => gd (aB shR r11 0 25) <| nx (sI u12.1 r11 (25 : Int32).toNatClampNeg u12.2) fun M14 => f_X11_market_84 k13 M14 0 else bd (f_X11_line M2 0) fun u5 => f_X11_market_84 k13 u5 0) = k13 Mb 0 ∧ SP L B (n + 1) (∃ D', MkR d D' Ma Mb ∧ kLn D' = kLn D + 1) Ma Mb ∧ KpF d M1 Ma ∧ KpG M2 Mb := by
  have hdm : d ∈ MB := by rcases hd with rfl | rfl <;> decide
  have ms := mb_sh d hdm
  have hW := h.1
  have hR := hG.1.2.1
  have c2 : gI M1 d 2 = nI (kLn D) := h.2.2.1.1.2.2.1
  have r4 : gI M2 6 4 = nI (kLn D) := h.2.2.2.1.h4.2.2.1
  have hln : kLn D < 2 ^ 31 := by omega
  unfold f_X6_readLine
  rw [ms.1, gd_t, c2, oC_1, gd_t, rr_16 hR, bd_t, aB_l (i := 4) zR_6 (by decide), gd_t, show (4 : Int32).toNatClampNeg = 4 from rfl, r4]
  by_cases h0 : kLn D = 0
  · obtain ⟨M1', M2', a1, a2, a3⟩ := market_line hd h h0 (Or.inl ⟨⟨a, e, t, ha, hG⟩, trivial⟩)
    obtain ⟨Ma, Mb, b1, b2, b3⟩ := end_line hd c2 r4 a3 k13
    have z : nI (kLn D) = 0 := by rw [h0]; rfl
    rw [if_pos z, if_pos z, a1, bd_t]
    refine ⟨Ma, Mb, b1, ?_, b3⟩
    rw [← b2]
    exact a2 (fun M => f_X11_market_84 k13 M 0)
  have hl : 0 < kLn D := by omega
  have z : ¬ nI (kLn D) = 0 := nI_ne0 hl hln
  rw [if_neg z, if_neg z, gd_t]
  obtain ⟨b0, p0, q0, -⟩ := isWord_both (i := 0) (by decide) hG.1 hG.2.1
  obtain ⟨b1, p1, q1, -⟩ := isWord_both (i := 1) (by decide) hG.1 hG.2.1
  obtain ⟨b2, p2, q2, -⟩ := isWord_both (i := 2) (by decide) hG.1 hG.2.1
  obtain ⟨b3, p3, q3, -⟩ := isWord_both (i := 3) (by decide) hG.1 hG.2.1
  obtain ⟨b4, p4, q4, -⟩ := isWord_both (i := 4) (by decide) hG.1 hG.2.1
  have q0' : f_X11_is M2 0 361240 = some (bI b0) := by rw [← wT_c.1]; exact q0 hG.2.2.2.1
  have q1' : f_X11_is M2 0 10492104 = some (bI b1) := by rw [← wT_c.2.1]; exact q1 hG.2.2.2.1
  have q2' : f_X11_is M2 0 1494603 = some (bI b2) := by rw [← wT_c.2.2.1]; exact q2 hG.2.2.2.1
  have q3' : f_X11_is M2 0 12253591 = some (bI b3) := by rw [← wT_c.2.2.2.1]; exact q3 hG.2.2.2.1
  have q4' : f_X11_is M2 0 10506440 = some (bI b4) := by rw [← wT_c.2.2.2.2.1]; exact q4 hG.2.2.2.1
  have fin : ∀ {M1' M2' : Mem} {code : Int32}, f_X11_line_72 M2 0 code = some M2' → LnE L B n d (kLn D) M1 M2 M1' M2' → ∃ Ma Mb, f_X6_readLine_105 M1' 1 d = some Ma ∧ (bd (f_X11_line_72 M2 0 code) fun u5 => f_X11_market_84 k13 u5 0) = k13 Mb 0 ∧ SP L B (n + 1) (∃ D', MkR d D' Ma Mb ∧ kLn D' = kLn D + 1) Ma Mb ∧ KpF d M1 Ma ∧ KpG M2 Mb := fun {M1' M2' code} e1 e2 => by
    obtain ⟨Ma, Mb, b1, b2, b3⟩ := end_line hd c2 r4 e2 k13
    exact ⟨Ma, Mb, b1, by rw [e1, bd_t, b2], b3⟩
  have n10 : ¬ (1 : Int32) = 0 := by decide
  unfold f_X11_line
  rw [oR, gd_t, p0, bd_t, p1, bd_t, p2, bd_t, p3, bd_t, p4, bd_t, q0', bd_t, q1', bd_t, q2', bd_t, q4', bd_t, q3', bd_t]
  cases b0 with
  | true =>
    obtain ⟨M1', M2', a1, a2, a3⟩ := ring_line hd h hl hll ha hG
    rw [bI_t, if_neg n10, if_neg n10, a1, bd_t]
    exact fin a2 a3
  | false =>
    rw [bI_f, if_pos rfl, if_pos rfl]
    cases b1 with
    | true =>
      obtain ⟨M1', M2', a1, a2, a3⟩ := stall_line hd h hl hll ha hG
      rw [bI_t, if_neg n10, if_neg n10, a1, bd_t]
      exact fin a2 a3
    | false =>
      rw [bI_f, if_pos rfl, if_pos rfl]
      cases b2 with
      | true =>
        obtain ⟨M1', M2', a1, a2, a3⟩ := buyer_line hd h hl hll ha hG
        rw [bI_t, if_neg n10, if_neg n10, a1, bd_t]
        exact fin a2 a3
      | false =>
        rw [bI_f, if_pos rfl, if_pos rfl]
        cases b3 with
        | true =>
          have hb4 : b4 = false := by
            cases b4 with
            | false => rfl
            | true => exact absurd (is_inj q3' q4') (by decide)
          subst hb4
          obtain ⟨M1', M2', a1, a2, a3⟩ := wants_line hd h hl hll ha hG
          rw [bI_t, bI_f, if_neg n10, if_pos rfl, if_neg n10, a1, bd_t]
          exact fin a2 a3
        | false =>
          rw [bI_f, if_pos rfl]
          cases b4 with
          | true =>
            obtain ⟨M1', M2', a1, a2, a3⟩ := stuck_line hd h hl hll ha hG
            rw [bI_t, if_neg n10, if_neg n10, a1, bd_t]
            exact fin a2 a3
          | false =>
            obtain ⟨M1', M2', a1, a2, a3, a4, a5⟩ := hG.fail (k := 1) (by decide) (by decide)
            have a1' : f_X6_refuse M1 1 1 = some M1' := a1
            have a2' : f_X11_fails M2 0 1 = some M2' := a2
            rw [bI_f, if_pos rfl, if_pos rfl, if_pos rfl, a1', bd_t]
            exact fin (l72_n a2' a5.n) (LnE.pb a3 a4 a5)
theorem read_loop (hd : d = 3 ∨ d = 42) : ∀ m n n' k M1 M2, 2000 - k ≤ m → m < n → m < n' → k ≤ 2000 → SP L B k (∃ D, MkR d D M1 M2 ∧ kLn D = k) M1 M2 → ∃ M1' M2', f_X6_read_30 n M1 1 d (nI k) = f_X6_read_62 M1' 1 ∧ f_X11_market_13 n' M2 0 = f_X11_market_108 M2' 0 ∧ KpF d M1 M1' ∧ KpG M2 M2' ∧ SP L B 0 (∃ D, MkR d D M1' M2') M1' M2' := by
  have stop : ∀ {n n' k : Nat} {M1 M2 : Mem}, (¬ gI M1 1 2 = 0 ∨ gI M1 1 6 = 0 ∨ 2000 ≤ k ∧ k < 3000) → (¬ gI M2 0 12 = 0 ∨ gI M2 0 8 = 0) → f_X6_read_30 (n + 1) M1 1 d (nI k) = f_X6_read_62 M1 1 ∧ f_X11_market_13 (n' + 1) M2 0 = f_X11_market_108 M2 0 := fun {n n' k M1 M2} h1 h2 => by
    constructor
    · show s_X6_read_30 (f_X6_read_30 n) M1 1 d (nI k) = _
      unfold s_X6_read_30
      rw [oC_1, gd_t]
      by_cases c : (2000 : Int32) ≤ nI k
      · rw [if_pos c]
      · rw [if_neg c]
        rcases h1 with z | z | z
        · rw [if_neg z]
        · rw [if_pos z]
          split <;> rfl
        · exact absurd (show (2000 : Int32) ≤ nI k from nI_le (a := 2000) z.1 (by omega)) c
    · show s_X11_market_13 (f_X11_market_13 n') M2 0 = _
      unfold s_X11_market_13 f_X11_isGood
      rw [oR, gd_t, gd_t]
      by_cases c : gI M2 0 12 = 0
      · rw [if_pos c, bd_t, if_neg (show ¬ (1 : Int32) = 0 by decide)]
        rcases h2 with z | z
        · exact absurd c z
        · rw [if_pos z]
      · rw [if_neg c, bd_t, if_pos rfl]
  intro m
  induction m with
  | zero =>
    intro n n' k M1 M2 h1 h2 h3 h4 hS
    obtain ⟨n, rfl⟩ : ∃ q, n = q + 1 := ⟨n - 1, by omega⟩
    obtain ⟨n', rfl⟩ : ∃ q, n' = q + 1 := ⟨n' - 1, by omega⟩
    have e : (¬ gI M2 0 12 = 0 ∨ gI M2 0 8 = 0) := by
      rcases hS with ⟨⟨a, e, t, ha, hG⟩, -⟩ | hB
      · right
        obtain ⟨k1, k2, k3, k4, k5, k6, k7, k8, k9, k10, -⟩ := hG.2.1
        have hL := hG.1.2.2.1
        have : t = 0 := by
          rcases Nat.eq_zero_or_pos t with z | z
          · exact z
          · have := k10 (by omega)
            omega
        rw [k8, this]
        rfl
      · exact Or.inl hB.n
    obtain ⟨s1, s2⟩ := stop (n := n) (n' := n') (k := k) (M1 := M1) (M2 := M2) (Or.inr (Or.inr ⟨by omega, by omega⟩)) e
    refine ⟨M1, M2, s1, s2, KpC.rf.F, KpR.rf.G, ?_⟩
    rcases hS with ⟨⟨a, e, t, ha, hG⟩, D, q1, -⟩ | hB
    · exact Or.inl ⟨⟨a, e, t, Nat.zero_le _, hG⟩, D, q1⟩
    · exact Or.inr hB
  | succ m ih =>
    intro n n' k M1 M2 h1 h2 h3 h4 hS
    obtain ⟨n, rfl⟩ : ∃ q, n = q + 1 := ⟨n - 1, by omega⟩
    obtain ⟨n', rfl⟩ : ∃ q, n' = q + 1 := ⟨n' - 1, by omega⟩
    rcases hS with ⟨⟨a, e, t, ha, hG⟩, D, hM, hk⟩ | hB
    case' inr =>
      obtain ⟨s1, s2⟩ := stop (n := n) (n' := n') (k := k) (M1 := M1) (M2 := M2) (Or.inl hB.c) (Or.inl hB.n)
      exact ⟨M1, M2, s1, s2, KpC.rf.F, KpR.rf.G, Or.inr hB⟩
    obtain ⟨k1, k2, k3, k4, k5, k6, k7, k8, k9, k10, -⟩ := hG.2.1
    have hL := hG.1.2.2.1
    by_cases ht : t = 0
    · obtain ⟨s1, s2⟩ := stop (n := n) (n' := n') (k := k) (M1 := M1) (M2 := M2) (Or.inr (Or.inl (by rw [k7, ht]; rfl))) (Or.inr (by rw [k8, ht]; rfl))
      exact ⟨M1, M2, s1, s2, KpC.rf.F, KpR.rf.G, Or.inl ⟨⟨a, e, t, Nat.zero_le _, hG⟩, D, hM⟩⟩
    have hae := k10 ht
    have hk2 : k < 2000 := by omega
    obtain ⟨Ma, Mb, a1, a2, a3, a4, a5⟩ := line_step hd hM (by omega) ha hG (f_X11_market_13 n')
    obtain ⟨M1', M2', b1, b2, b3, b4, b5⟩ := ih n n' (k + 1) Ma Mb (by omega) (by omega) (by omega) (by omega) (a3.im (fun ⟨D', z1, z2⟩ => ⟨D', z1, by omega⟩))
    refine ⟨M1', M2', ?_, ?_, a4.tr b3, a5.tr b4, b5⟩
    · show s_X6_read_30 (f_X6_read_30 n) M1 1 d (nI k) = _
      unfold s_X6_read_30
      rw [oC_1, gd_t, if_neg (show ¬ (2000 : Int32) ≤ nI k from nI_ge (b := 2000) hk2 (by decide)), if_pos hG.2.2.1, k7, if_neg (nI_ne0 (by omega) (by omega)), a1, bd_t, nI_1, b1]
    · show s_X11_market_13 (f_X11_market_13 n') M2 0 = _
      unfold s_X11_market_13 f_X11_isGood
      rw [oR, gd_t, gd_t, if_pos hG.2.2.2.1, bd_t, if_neg (show ¬ (1 : Int32) = 0 by decide), k8, if_neg (nI_ne0 (by omega) (by omega))]
      exact a2.trans b2
end L8
section MQ
variable {p d : Nat} {D : MK} {M1 M2 M1' M2' : Mem}
theorem rel_tail (h : Rel0 p d D M1 M2) (c : ∀ a k, a ≠ 0 → a ≠ 1 → ¬ inB d a → gI M1' a k = gI M1 a k) (cl : ∀ a k, ¬ inB d a → gL M1' a k = gL M1 a k) (r : ∀ a k, a ≠ 0 → ¬ slR 4 a k → ¬ slR 0 a k → gI M2' a k = gI M2 a k) (rl : ∀ k, gL M2' 3 k = gL M2 3 k) : (∀ j, j < 3 → ImgR M1' M2' j) ∧ ∀ j, j < 4 → RowR M1' M2' j := by
  have hd := h.d_or
  have no : ∀ {a k b : Nat}, a < 6 ∨ 12 < a → ¬ slR b a k := fun {a k b} z ⟨w, q, _, _⟩ => by rcases cpL_or q with y | y | y | y | y | y | y <;> omega
  refine ⟨fun j hj => (h.im j hj).keep (c 82 j (by omega) (by omega) (by unfold inB; omega)) (r 13 j (by omega) (no (by omega)) (no (by omega))) (fun a z => ⟨fun k => c a k (by unfold inB at z; omega) (by unfold inB at z; omega) (by unfold inB at *; omega), fun k => cl a k (by unfold inB at *; omega)⟩) (fun q w hq k hk => r _ _ (by rcases cpL_or hq with z | z | z | z | z | z | z <;> omega) (slR_ne (by omega) hq hk) (slR_ne (by omega) hq hk)), fun j hj => (h.rw' j hj).keep hj (fun a z1 z2 => ⟨fun k => c a k (by omega) (by omega) (by unfold inB; omega), fun k => cl a k (by unfold inB; omega)⟩) (fun a k z => r a k (by omega) (no (by omega)) (no (by omega))) rl⟩
theorem clear_eq (hdm : d ∈ MB) (M : Mem) : f_X4_clear M d = some (sI (sI (sI (sI (sI (sI M d 0 0) d 1 0) d 2 0) d 3 0) d 4 0) d 5 0) := by
  unfold f_X4_clear
  rw [(mb_sh d hdm).1, gd_t, nx_t, nx_t, nx_t, nx_t, nx_t, nx_t]
theorem clears_eq {M : Mem} (hR : RR M) : ∃ M', f_X11_clears M 0 = some M' ∧ OnlyK (fun a k => (a = 6 ∧ k = 4) ∨ (a = 7 ∧ 24 ≤ k ∧ k < 30)) M M' ∧ gI M' 6 4 = 0 ∧ ∀ k, 24 ≤ k → k < 30 → gI M' 7 k = 0 := by
  have key : ∀ n k M1, k ≤ 6 → 6 < n + k → RR M1 → OnlyK (fun a k => (a = 6 ∧ k = 4) ∨ (a = 7 ∧ 24 ≤ k ∧ k < 30)) M M1 → gI M1 6 4 = 0 → (∀ j, j < k → gI M1 7 (24 + j) = 0) → ∃ M', f_X11_clears_9 n M1 0 (nI k) = some M' ∧ OnlyK (fun a k => (a = 6 ∧ k = 4) ∨ (a = 7 ∧ 24 ≤ k ∧ k < 30)) M M' ∧ gI M' 6 4 = 0 ∧ ∀ j, j < 6 → gI M' 7 (24 + j) = 0 := by
    intro n
    induction n with
    | zero => intro k M1 h1 h2; omega
    | succ n ih =>
      intro k M1 h1 h2 hr hO h4 hz
      show ∃ M', s_X11_clears_9 (f_X11_clears_9 n) M1 0 (nI k) = some M' ∧ _
      unfold s_X11_clears_9
      by_cases e : k = 6
      · subst e
        rw [if_pos (by decide)]
        exact ⟨M1, rfl, hO, h4, hz⟩
      rw [if_neg (show ¬ (6 : Int32) ≤ nI k from nI_ge (b := 6) (by omega) (by decide)), oR, gd_t, rr_17 hr, bd_t, show (24 : Int32) + nI k = nI (24 + k) from nI_add 24 k, aB_t (24 + k) zR_7 rfl (by omega) (by decide), gd_t, nx_t, nI_clamp (by omega), nI_1]
      exact ih (k + 1) _ (by omega) (by omega) hr.I (hO.I (Or.inr ⟨rfl, by omega, by omega⟩)) (by rw [gI_sI, if_neg (by omega), h4]) (fun j hj => by
        rw [gI_sI]
        by_cases q : j = k
        · rw [if_pos ⟨rfl, by omega⟩]
        · rw [if_neg (by omega)]
          exact hz j (by omega))
  obtain ⟨M', a1, a2, a3, a4⟩ := key FU 0 (sI M 6 4 0) (by omega) (by decide) hR.I (OnlyK.rf.I (Or.inl ⟨rfl, rfl⟩)) (by rw [gI_sI, if_pos ⟨rfl, rfl⟩]) (fun j hj => by omega)
  refine ⟨M', ?_, a2, a3, fun k h1 h2 => ?_⟩
  · unfold f_X11_clears
    rw [oR, gd_t, rr_16 hR, bd_t, aB_l (i := 4) zR_6 (by decide), gd_t, nx_t]
    exact a1
  · have := a4 (k - 24) (by omega)
    rwa [show 24 + (k - 24) = k by omega] at this
theorem CR.w12 {M : Mem} {k : Nat} {v : Option Nat} (h : CR M) (hk : k = 1 ∨ k = 2) : CR (sR M 0 k v) := fun a j q => by
  rw [gR_sR, if_neg]
  · exact h a j q
  · rintro ⟨rfl, rfl⟩
    rcases hk with rfl | rfl <;> cases q
theorem eq_market {M1 M2 : Mem} (h : Rel M1 M2) : Same (f_X10_market M1 0) (f_X11_market M2 0) := by
  obtain ⟨p, d, D, h, hk⟩ := h
  have hd := h.d_or
  have hp := p_or h
  have hdj := h.dj
  have hdm := h.db
  have ms := mb_sh d hdm
  obtain ⟨L, hL, l1, l2, l3, l4, l5⟩ := h.tp
  -- the class up to its first token
  obtain ⟨A, hA⟩ : ∃ A, A = sI (sI (sI (sI (sI (sI (sI (sI (sI (sI M1 1 2 0) 1 3 (-1)) 1 5 0) 1 8 0) d 0 0) d 1 0) d 2 0) d 3 0) d 4 0) d 5 0 := ⟨_, rfl⟩
  have iD : inB d d := by unfold inB; omega
  have kA : ∀ a k, ¬ (a = 1 ∧ (kC k ∨ k = 8)) → ¬ inB d a → gI A a k = gI M1 a k := fun a k z1 z2 => by
    have hne : a ≠ d := fun y => z2 (by rw [y]; exact iD)
    have hn1 : ¬ (a = 1 ∧ (k = 2 ∨ k = 3 ∨ k = 5 ∨ k = 8)) := fun y => z1 ⟨y.1, by unfold kC; omega⟩
    rw [hA, gI_sI, if_neg (by omega), gI_sI, if_neg (by omega), gI_sI, if_neg (by omega), gI_sI, if_neg (by omega), gI_sI, if_neg (by omega), gI_sI, if_neg (by omega), gI_sI, if_neg (by omega), gI_sI, if_neg (by omega), gI_sI, if_neg (by omega), gI_sI, if_neg (by omega)]
  have fA : KpF d M1 A := ⟨by rw [hA]; rfl, kA, fun a k _ => by rw [hA]; rfl⟩
  have A2 : gI A 1 2 = 0 := by rw [hA, gI_sI, if_neg (by omega), gI_sI, if_neg (by omega), gI_sI, if_neg (by omega), gI_sI, if_neg (by omega), gI_sI, if_neg (by omega), gI_sI, if_neg (by omega), gI_sI, if_neg (by omega), gI_sI, if_neg (by omega), gI_sI, if_neg (by omega), gI_sI, if_pos ⟨rfl, rfl⟩]
  have A3 : gI A 1 3 = -1 := by rw [hA, gI_sI, if_neg (by omega), gI_sI, if_neg (by omega), gI_sI, if_neg (by omega), gI_sI, if_neg (by omega), gI_sI, if_neg (by omega), gI_sI, if_neg (by omega), gI_sI, if_neg (by omega), gI_sI, if_neg (by omega), gI_sI, if_pos ⟨rfl, rfl⟩]
  have A5 : gI A 1 5 = 0 := by rw [hA, gI_sI, if_neg (by omega), gI_sI, if_neg (by omega), gI_sI, if_neg (by omega), gI_sI, if_neg (by omega), gI_sI, if_neg (by omega), gI_sI, if_neg (by omega), gI_sI, if_neg (by omega), gI_sI, if_pos ⟨rfl, rfl⟩]
  have A8 : gI A 1 8 = 0 := by rw [hA, gI_sI, if_neg (by omega), gI_sI, if_neg (by omega), gI_sI, if_neg (by omega), gI_sI, if_neg (by omega), gI_sI, if_neg (by omega), gI_sI, if_neg (by omega), gI_sI, if_pos ⟨rfl, rfl⟩]
  have Ad : ∀ k, k < 6 → gI A d k = 0 := fun k hk => by
    rw [hA]
    have : k = 0 ∨ k = 1 ∨ k = 2 ∨ k = 3 ∨ k = 4 ∨ k = 5 := by omega
    rcases this with rfl | rfl | rfl | rfl | rfl | rfl <;> simp [gI_sI]
  -- the reference up to its first token
  obtain ⟨Mc, c1, c2, c3, c4⟩ := clears_eq (M := sI M2 0 0 0) h.r.I
  obtain ⟨Z, hZ⟩ : ∃ Z, Z = sI (sI (sI Mc 0 12 0) 0 13 (-1)) 0 7 0 := ⟨_, rfl⟩
  have rZ : RR Z := by rw [hZ]; exact (c2.RR h.r.I).I.I.I
  have kZ : ∀ a k, ¬ (a = 0 ∧ (k = 0 ∨ kN k)) → ¬ slR 4 a k → gI Z a k = gI M2 a k := fun a k z1 z2 => by
    have hn : ¬ (a = 0 ∧ (k = 0 ∨ k = 7 ∨ k = 12 ∨ k = 13)) := fun y => z1 ⟨y.1, by unfold kN; omega⟩
    rw [hZ, gI_sI, if_neg (by omega), gI_sI, if_neg (by omega), gI_sI, if_neg (by omega), c2.2 _ _ (fun y => z2 (by
      rcases y with y | y
      · rw [y.1, y.2]; exact sl_6
      · rw [y.1]; exact sl_7 y.2)), gI_sI, if_neg (by omega)]
  have lZ : ∀ a k, gL Z a k = gL M2 a k := fun a k => by
    rw [hZ]
    show Mc.2.1 a k = M2.2.1 a k
    rw [c2.1]
    rfl
  have Z12 : gI Z 0 12 = 0 := by rw [hZ, gI_sI, if_neg (by omega), gI_sI, if_neg (by omega), gI_sI, if_pos ⟨rfl, rfl⟩]
  have Z7 : gI Z 0 7 = nI 0 := by rw [hZ, gI_sI, if_pos ⟨rfl, rfl⟩]; rfl
  have Zh : ∀ k, 24 ≤ k → k < 30 → gI Z 7 k = 0 := fun k z1 z2 => by rw [hZ, gI_sI, if_neg (by omega), gI_sI, if_neg (by omega), gI_sI, if_neg (by omega), c4 k z1 z2]
  have Z64 : gI Z 6 4 = 0 := by rw [hZ, gI_sI, if_neg (by omega), gI_sI, if_neg (by omega), gI_sI, if_neg (by omega), c3]
  have no : ∀ {a k b : Nat}, a < 6 ∨ 12 < a → ¬ slR b a k := fun {a k b} z ⟨w, q, _, _⟩ => by rcases cpL_or q with y | y | y | y | y | y | y <;> omega
  have crA : CR A := fun a k q => by
    show A.2.2 a k = _
    rw [fA.1]
    exact h.c a k q
  have hT : TP A Z L (fun i => gI M1 2 i) := ⟨crA, rZ, hL, by rw [kA _ _ (by unfold kC; omega) (by unfold inB; omega)]; exact l1, by rw [kZ _ _ (by unfold kN; omega) (no (by omega))]; exact l2, fun i _ => kA _ _ (by omega) (by unfold inB; omega), fun i hi => by rw [kZ _ _ (by omega) (no (by omega))]; exact (l3 i hi).symm⟩
  obtain ⟨An, Zn, a, e, t, n1, n2, n3, n4, -, n6⟩ := next_both hT (Nat.zero_le L) A5 Z7
  have hG : PG L (fun i => gI M1 2 i) An Zn a e t := ⟨(hT.c n3 (by unfold tkC; omega)).n n4 (by unfold tkR; omega), n6, by rw [n3.2 _ _ (by unfold tkC; omega)]; exact A2, by rw [n4.2.1 _ _ (by unfold tkR; omega)]; exact Z12, by rw [n3.2 _ _ (by unfold tkC; omega)]; exact A3⟩
  have oA : OnT kC A An := n3.mono (fun _ => tkC_k)
  have oZ : OnN kN Z Zn := n4.mono (fun _ => tkR_k)
  have hM0 : MkR d (fun _ _ _ _ => 0) An Zn := by
    have hM : MkR d (fun _ _ _ _ => 0) A Z := by
      refine ⟨⟨Or.inl ⟨rfl, rfl, rfl, rfl, rfl, rfl⟩, Nat.zero_le _, Nat.zero_le _, Nat.zero_le _, fun r hr => absurd hr (Nat.not_lt_zero r), fun r hr => absurd hr (Nat.not_lt_zero r), fun r hr => absurd hr (Nat.not_lt_zero r)⟩, fun _ _ _ _ => rfl, ⟨⟨Ad 0 (by decide), Ad 1 (by decide), Ad 2 (by decide), Ad 3 (by decide), Ad 4 (by decide), Ad 5 (by decide)⟩, fun r hr => absurd hr (Nat.not_lt_zero r), fun r hr => absurd hr (Nat.not_lt_zero r), fun r hr => absurd hr (Nat.not_lt_zero r)⟩, ⟨⟨Zh 24 (by decide) (by decide), Zh 25 (by decide) (by decide), Z64, Zh 26 (by decide) (by decide), Zh 27 (by decide) (by decide), Zh 28 (by decide) (by decide)⟩, fun r hr => absurd hr (Nat.not_lt_zero r), fun r hr => absurd hr (Nat.not_lt_zero r), fun r hr => absurd hr (Nat.not_lt_zero r)⟩, ⟨0, fun _ => 0, fun _ => 0, fun _ => 0, by omega, A8, Zh 29 (by decide) (by decide), fun i hi => by omega, fun r m => ⟨fun z => absurd (show (0 : Nat) = 1 from z) (by decide), fun ⟨i, hi, _⟩ => by omega⟩⟩, fun _ _ => Nat.zero_le _⟩
    exact hM.keep hd oA oZ
  obtain ⟨M1', M2', r1, r2, r3, r4, r5⟩ := read_loop hd 2000 FU FU 0 An Zn (by omega) (by decide) (by decide) (by omega) (Or.inl ⟨⟨a, e, t, Nat.zero_le _, hG⟩, _, hM0, rfl⟩)
  have fC : KpF d M1 M1' := (fA.tr (KpC.T oA).F).tr r3
  have fR : KpG Z M2' := (KpR.N oZ).G.tr r4
  have gr1 : ∀ a k, gR M1' a k = gR M1 a k := fun a k => by
    show M1'.2.2 a k = M1.2.2 a k
    rw [fC.1]
  have rM2 : RR M2' := fun a k => by
    show M2'.2.2 a k = _
    rw [fR.1]
    exact rZ a k
  have i2 : ∀ a k, ¬ (a = 0 ∧ (k = 0 ∨ kN k)) → ¬ slR 4 a k → gI M2' a k = gI M2 a k := fun a k z1 z2 => (fR.2.1 a k (fun y => z1 ⟨y.1, Or.inr y.2⟩) z2).trans (kZ a k z1 z2)
  have crM : CR M1' := fun a k q => (gr1 a k).trans (h.c a k q)
  have r1' : f_X6_read_30 FU An 1 d 0 = _ := r1
  have n2' : f_X11_begins Mc 0 = some Zn := by
    unfold f_X11_begins
    rw [oR, gd_t, nx_t, nx_t, nx_t, ← hZ, n2, bd_t]
  have hread : ∀ {res}, f_X6_read_62 M1' 1 = some res → f_X6_read M1 1 d = some res := fun {res} hh => by
    unfold f_X6_read
    rw [oC_1, gd_t, nx_t, nx_t, nx_t, nx_t, ms.1, gd_t, clear_eq hdm, bd_t, ← hA, n1, bd_t, r1', hh]
  unfold f_X10_market f_X11_market
  rw [oC_0, gd_t, cr_0_0 h.c, bd_t, h.g2, bd_t, oC_1, gd_t, oR, gd_t, nx_t, c1, bd_t, n2', bd_t, r2]
  unfold f_X11_market_108 f_X11_isOver
  rw [oR, gd_t, gd_t, nx_t, nx_t]
  rcases r5 with ⟨⟨a9, e9, t9, -, hG9⟩, Dn, hMn⟩ | hB
  · -- read
    obtain ⟨g1, g2, g3, g4, g5⟩ := hG9
    have e62 : f_X6_read_62 M1' 1 = some (sI M1' 1 1 0, 1) := by
      unfold f_X6_read_62
      have q : gI (sI M1' 1 1 0) 1 2 = gI M1' 1 2 := by rw [gI_sI, if_neg (by omega)]
      rw [oC_1, gd_t, nx_t, q, if_pos g3]
    rw [hread e62, bd_t]
    dsimp only
    have w12 : gI (sI (sI M2' 0 6 0) 0 14 (gI (sI M2' 0 6 0) 0 12)) 0 12 = 0 := by rw [gI_sI, if_neg (by omega), gI_sI, if_neg (by omega), g4]
    obtain ⟨Y, hY⟩ : ∃ Y, Y = sI (sI (sI M2' 0 6 0) 0 14 (gI (sI M2' 0 6 0) 0 12)) 0 15 (-1) := ⟨_, rfl⟩
    have rY : RR Y := by rw [hY]; exact rM2.I.I.I
    have iY : ∀ a k, a ≠ 0 → gI Y a k = gI M2' a k := fun a k z => by rw [hY, gI_sI, if_neg (by omega), gI_sI, if_neg (by omega), gI_sI, if_neg (by omega)]
    obtain ⟨X, x1, x2, x3⟩ := copyMarket_eq (M := Y) (a := 4) (b := 0) (x := 4) (y := 0) rY (by decide) (by decide) (by decide) rfl rfl
    have w12' : gI Y 0 12 = 0 := by rw [hY, gI_sI, if_neg (by omega), w12]
    rw [if_neg (show ¬ (1 : Int32) = 0 by decide), if_pos w12, nx_t, bd_t, ← hY, if_pos w12', x1, bd_t, rr_16 (x2.RR rY), bd_t, aB_l (i := 0) zR_6 (by decide), gd_t, show gR (sI M1' 1 1 0) 0 2 = some d from (gr1 0 2).trans h.g2, bd_t, show gR (sI M1' 1 1 0) 0 1 = some p from (gr1 0 1).trans h.g1, bd_t, nx_t, nx_t, nx_t, gR_sI, gR_sR, if_pos ⟨rfl, rfl⟩, bd_t, ms.1, gd_t]
    have hW := hMn.1
    obtain ⟨⟨m, sr, sf, st, s1, s2, s3, s4, s5⟩, s6⟩ := hMn.2.2.2.2
    have hRM4 : RM M2' 4 Dn := ⟨hMn.2.2.2.1, m, sr, sf, st, s1, s3, fun i hi => ⟨by have := (s4 i hi).1; have := hW.n; omega, (s4 i hi).2.1, (s4 i hi).2.2.1, (s4 i hi).2.2.2⟩, fun r m' _ _ => s5 r m'⟩
    have hRM : RM X 0 Dn := hRM4.cp hW (fun q w hq k hk => by
      rw [x3 q w hq k hk, iY _ _ (by rcases cpL_or hq with z | z | z | z | z | z | z <;> omega)])
    have hln : gI X 6 0 = nI (kLn Dn) := hRM.1.1.2.2.1
    have hlc : gI (sI (sR (sR (sI M1' 1 1 0) 0 2 (some p)) 0 1 (some d)) 0 7 0) d 2 = nI (kLn Dn) := by
      rw [gI_sI, if_neg (by omega)]
      show gI (sI M1' 1 1 0) d 2 = _
      rw [gI_sI, if_neg (by omega)]
      exact hMn.2.2.1.1.2.2.1
    have cF : ∀ a k, ¬ (a = 1 ∧ k = 1) → ¬ (a = 0 ∧ k = 7) → gI (sI (sR (sR (sI M1' 1 1 0) 0 2 (some p)) 0 1 (some d)) 0 7 0) a k = gI M1' a k := fun a k z1 z2 => by
      rw [gI_sI, if_neg z2]
      show gI (sI M1' 1 1 0) a k = _
      rw [gI_sI, if_neg z1]
    have lF : ∀ a k, gL (sI (sR (sR (sI M1' 1 1 0) 0 2 (some p)) 0 1 (some d)) 0 7 0) a k = gL M1' a k := fun _ _ => rfl
    have crF : CR (sI (sR (sR (sI M1' 1 1 0) 0 2 (some p)) 0 1 (some d)) 0 7 0) := ((CR.w12 (CR.w12 crM.I (Or.inr rfl)) (Or.inl rfl))).I
    have tl := rel_tail (M1' := sI (sR (sR (sI M1' 1 1 0) 0 2 (some p)) 0 1 (some d)) 0 7 0) (M2' := X) h (fun a k z1 z2 z3 => by rw [cF _ _ (by omega) (by omega), fC.2.1 _ _ (by omega) z3]) (fun a k z => by rw [lF, fC.2.2 _ _ z]) (fun a k z1 z2 z3 => by rw [x2.2 _ _ z3, iY _ _ z1, i2 _ _ (by omega) z2]) (fun k => by
      show X.2.1 3 k = _
      rw [x2.1, hY]
      show M2'.2.1 3 k = _
      exact ((fR.2.2 3 k (by omega)).trans (lZ 3 k)))
    refine ⟨_, _, nI (kLn Dn), ?_, ?_, d, p, Dn, ⟨crF, x2.RR rY, rfl, ?_, ?_, hW, hMn.2.1, ?_, hRM, tl.1, tl.2, 0, by omega, ?_, ?_, fun i hi => by omega, ?_, ?_⟩, Or.inl ?_⟩
    · rw [hlc]
    · show some (X, gI X 6 0) = _
      rw [hln]
    · rfl
    · have := h.2.2.2.2.1
      omega
    · exact hMn.2.2.1.keep hW.n (fun a z1 z2 => ⟨fun k => cF a k (by omega) (by omega), fun k => lF a k⟩)
    · rw [gI_sI, if_neg (by omega)]
      show gI (sI M1' 1 1 0) 1 1 = nI 0
      rw [gI_sI, if_pos ⟨rfl, rfl⟩]
      rfl
    · rw [x2.2 _ _ (no (by omega)), hY, gI_sI, if_neg (by omega), gI_sI, if_neg (by omega), gI_sI, if_pos ⟨rfl, rfl⟩]
      rfl
    · rw [cF _ _ (by omega) (by omega), g3, x2.2 _ _ (no (by omega)), hY, gI_sI, if_neg (by omega), gI_sI, if_pos ⟨rfl, rfl⟩, gI_sI, if_neg (by omega), g4]
    · rw [cF _ _ (by omega) (by omega), g5, x2.2 _ _ (no (by omega)), hY, gI_sI, if_pos ⟨rfl, rfl⟩]
    · rw [gI_sI, if_pos ⟨rfl, rfl⟩]
  · -- a fault
    have e62 : f_X6_read_62 M1' 1 = some (sI M1' 1 1 0, 0) := by
      unfold f_X6_read_62
      have q : gI (sI M1' 1 1 0) 1 2 = gI M1' 1 2 := by rw [gI_sI, if_neg (by omega)]
      rw [oC_1, gd_t, nx_t, q, if_neg hB.c]
    rw [hread e62, bd_t]
    dsimp only
    have w12 : ¬ gI (sI (sI M2' 0 6 0) 0 14 (gI (sI M2' 0 6 0) 0 12)) 0 12 = 0 := by rw [gI_sI, if_neg (by omega), gI_sI, if_neg (by omega)]; exact hB.n
    obtain ⟨Y, hY⟩ : ∃ Y, Y = sI (sI (sI M2' 0 6 0) 0 14 (gI (sI M2' 0 6 0) 0 12)) 0 15 (gI (sI (sI M2' 0 6 0) 0 14 (gI (sI M2' 0 6 0) 0 12)) 0 13) := ⟨_, rfl⟩
    have w12' : ¬ gI Y 0 12 = 0 := by rw [hY, gI_sI, if_neg (by omega)]; exact w12
    have iY : ∀ a k, a ≠ 0 → gI Y a k = gI M2' a k := fun a k z => by rw [hY, gI_sI, if_neg (by omega), gI_sI, if_neg (by omega), gI_sI, if_neg (by omega)]
    rw [if_pos rfl, if_neg w12, nx_t, bd_t, ← hY, if_neg w12']
    have cF : ∀ a k, ¬ (a = 1 ∧ k = 1) → gI (sI M1' 1 1 0) a k = gI M1' a k := fun a k z1 => by rw [gI_sI, if_neg z1]
    have tl := rel_tail (M1' := sI M1' 1 1 0) (M2' := Y) h (fun a k z1 z2 z3 => by rw [cF _ _ (by omega), fC.2.1 _ _ (by omega) z3]) (fun a k z => fC.2.2 _ _ z) (fun a k z1 z2 z3 => by rw [iY _ _ z1, i2 _ _ (by omega) z2]) (fun k => by
      rw [hY]
      show M2'.2.1 3 k = _
      exact ((fR.2.2 3 k (by omega)).trans (lZ 3 k)))
    obtain ⟨-, ⟨kk, pl, b1, b2, b3, b4, b5, b6, b7⟩, -⟩ := hB
    refine ⟨_, _, -4, rfl, rfl, p, d, D, ⟨crM.I, by rw [hY]; exact rM2.I.I.I, (gr1 0 1).trans h.g1, (gr1 0 2).trans h.g2, h.2.2.2.2.1, h.wf, h.st, ?_, ?_, tl.1, tl.2, 0, by omega, ?_, ?_, fun i hi => by omega, ?_, ?_⟩, ?_⟩
    · exact h.cm.keep h.wf.n (fun a z1 z2 => ⟨fun k => by rw [cF _ _ (by omega), fC.2.1 _ _ (by omega) (by unfold inB; omega)], fun k => fC.2.2 _ _ (by unfold inB; omega)⟩)
    · exact h.rm.cp h.wf (fun q w hq k hk => by
        rw [iY _ _ (by rcases cpL_or hq with z | z | z | z | z | z | z <;> omega), i2 _ _ (by rcases cpL_or hq with z | z | z | z | z | z | z <;> omega) (slR_ne (by decide) hq hk)])
    · rw [gI_sI, if_pos ⟨rfl, rfl⟩]
      rfl
    · rw [hY, gI_sI, if_neg (by omega), gI_sI, if_neg (by omega), gI_sI, if_pos ⟨rfl, rfl⟩]
      rfl
    · rw [cF _ _ (by omega), b4, hY, gI_sI, if_neg (by omega), gI_sI, if_pos ⟨rfl, rfl⟩, gI_sI, if_neg (by omega), b5]
    · rw [cF _ _ (by omega), b6, hY, gI_sI, if_pos ⟨rfl, rfl⟩, gI_sI, if_neg (by omega), gI_sI, if_neg (by omega), b7]
    · exact hk.keep h.wf ((gr1 84 10)) (fun a z1 z2 k => by rw [cF _ _ (by omega), fC.2.1 _ _ (by omega) (by unfold inB; omega)]) (by rw [cF _ _ (by omega), fC.2.1 _ _ (by omega) (by unfold inB; omega)])
end MQ
