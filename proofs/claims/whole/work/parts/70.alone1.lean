/-! A BUYER ALONE, class side -/
def inA (a : Nat) : Prop := 142 ≤ a ∧ a ≤ 145
theorem HC.onlyL {M M' : Mem} {p : Nat} {D : MK} (h : HC M p D) (hO : OnlyL inA M M') : HC M' p D := by
  obtain ⟨h1, h2, h3, h4, h5, h6, h7⟩ := h
  have hn := h4.n
  refine ⟨h1, hO.CR h2, by rw [hO.gR]; exact h3, h4, h5.keep hn (fun a q1 q2 => hO.2 a (fun z => ?_)), fun r hr m hm => ?_, fun s hs m hm => ?_⟩
  · have := mb_out h1 (a := a) (by unfold inA at z; omega) (by unfold inA at z; omega)
    omega
  · rw [(hO.2 _ (by unfold inA; omega)).1]; exact h6 r hr m hm
  · rw [(hO.2 _ (by unfold inA; omega)).1]; exact h7 s hs m hm
def AX (M : Mem) (p : Nat) (D : MK) (b : Nat) : Prop := HC M p D ∧ b < kNb D ∧ gR M 142 3 = some p ∧ gR M 142 4 = some 85 ∧ gR M 142 5 = some (p + 15 + 4 * b)
theorem AX.onlyL {M M' : Mem} {p b : Nat} {D : MK} (h : AX M p D b) (hO : OnlyL inA M M') : AX M' p D b :=
  ⟨h.1.onlyL hO, h.2.1, by rw [hO.gR]; exact h.2.2.1, by rw [hO.gR]; exact h.2.2.2.1, by rw [hO.gR]; exact h.2.2.2.2⟩
def GA (M : Mem) (D : MK) (b : Nat) (G : HS) : Prop := gI M 142 0 = nI (G 4 0 0) ∧ gI M 142 1 = nI (G 5 0 0) ∧ (∀ m, m < kMi D → gI M 143 m = nI (G 3 m 0)) ∧ (∀ w, w < kBy D b 3 → gI M 144 w = nI (G 1 w 0)) ∧ ∀ s, s < kNs D → ∀ m, m < 64 → bitL (gL M 145 s) m = (G 0 s m == 1)
def inF (a k : Nat) : Prop := a = 142 ∧ 8 ≤ k ∧ k ≤ 10
theorem OnlyK.toL {M M' : Mem} (h : OnlyK inF M M') : OnlyL inA M M' := ⟨by rw [h.1], fun a ha => ⟨fun k => h.2 a k (fun z => ha (by unfold inF at z; unfold inA; omega)), fun k => by
  show M'.2.1 a k = M.2.1 a k
  rw [h.1]⟩⟩
theorem GA.onlyF {M M' : Mem} {D : MK} {b : Nat} {G : HS} (h : GA M D b G) (hO : OnlyK inF M M') : GA M' D b G := by
  obtain ⟨h1, h2, h3, h4, h5⟩ := h
  refine ⟨?_, ?_, fun m hm => ?_, fun w hw => ?_, fun s hs m hm => ?_⟩
  · rw [hO.2 _ _ (by unfold inF; omega)]; exact h1
  · rw [hO.2 _ _ (by unfold inF; omega)]; exact h2
  · rw [hO.2 _ _ (by unfold inF; omega)]; exact h3 m hm
  · rw [hO.2 _ _ (by unfold inF; omega)]; exact h4 w hw
  · rw [show gL M' 145 s = gL M 145 s by show M'.2.1 145 s = M.2.1 145 s; rw [hO.1]]; exact h5 s hs m hm
theorem pcB_tk {x : Int64} {G : HS} {s : Nat} (h : ∀ m, m < 64 → bitL x m = (G 0 s m == 1)) : ∀ n, n ≤ 64 → pcB x n = tkn G s n
  | 0, _ => rfl
  | n + 1, hn => by
    show pcB x n + (if bitL x n then 1 else 0) = _
    unfold tkn
    rw [pcB_tk h n (by omega), h n (by omega)]
    simp only [beq_iff_eq]
theorem cmp_1 (y : Int64) : lg_cmp y 1 = 0 ↔ y = 1 := by
  unfold lg_cmp
  by_cases h : y > 1
  · rw [if_pos h]
    constructor
    · intro z; exact absurd z (by decide)
    · intro z; subst z; exact (Int64.lt_irrefl h).elim
  · rw [if_neg h]
    by_cases h2 : y = 1
    · rw [if_pos h2]; exact ⟨fun _ => h2, fun _ => rfl⟩
    · rw [if_neg h2]; exact ⟨fun z => absurd z (by decide), fun z => absurd z h2⟩
theorem and_11 (x : Int64) : x &&& 1 = 1 ↔ x.toBitVec.getLsbD 0 = true := by
  have e : (x &&& 1 = 1) ↔ (x.toBitVec &&& 1#64 = 1#64) := by
    rw [← Int64.toBitVec_inj, Int64.toBitVec_and]
    rfl
  rw [e]
  constructor
  · intro h
    have h2 := congrArg (fun z => z.getLsbD 0) h
    simpa using h2
  · intro h
    apply BitVec.eq_of_getLsbD_eq
    intro i hi
    by_cases h0 : i = 0
    · subst h0
      simpa using h
    · simp [h0]
theorem bit_cmp1 (x : Int64) {m : Nat} (hm : m < 64) : lg_cmp ((x >>> ((nI m).toInt64 &&& 63)) &&& 1) 1 = 0 ↔ bitL x m = true := by
  rw [cmp_1, and_11, bit_shr x hm]
  rfl
def sm01 {α : Type} (c : Option α) : Int32 := match c with | none => 0 | some _ => 1
theorem zC_g : oB shC 142 0 = true := by decide +kernel
section AL
variable {M : Mem} {p b : Nat} {D : MK} {G : HS}
theorem toBeHad_eq (hX : AX M p D b) (hG : GA M D b G) (hI : IvA D b G) {m s : Nat} (hm : m < kMi D) (hs : s < kNs D) : f_X0_isToBeHad M 142 (nI s) (nI m) = some (sm01 (avO D b G m s)) := by
  obtain ⟨hH, hb, x3, x4, x5⟩ := hX
  have hQ := quiet_eq hH hs hm
  obtain ⟨hp, hCR, -, hW, hC, hT, hP⟩ := hH
  have hn := hW.n
  have hMi := hW.mi
  have hkP := hW.p
  have ms := mb_sh p hp
  have bs := ms.2.2.2.2.2.2 b (by omega)
  have hsl := hW.2.2.2.2.2.1 s hs
  have hby := hW.2.2.2.2.2.2 b hb
  have hwo := wantOf_eq hp hCR hW hC hb (g := kSl D s 2) (by omega)
  have hpl : gI M (91 + s) m = nI (kPl D s m) := hP s hs m hm
  have hplb : kPl D s m < 2 ^ 31 := by
    have := kPl_lt (D := D) (by omega) s m
    omega
  have hG5 := hG.2.2.2.2 s hs
  unfold f_X0_isToBeHad avO
  rw [zC_g, gd_t, x3, bd_t, ms.1, gd_t, mk_7 hCR hp, bd_t, aB_t s ms.2.2.1 rfl (by omega) (by decide), gd_t, nI_clamp (n := s) (by omega), mk_s hCR hp (by omega), bd_t, x4, bd_t, oC_85, gd_t, cr_85_1 hCR, bd_t, aB_t s zC_90 rfl (by omega) (by decide), gd_t, cr_p hCR (by omega), bd_t, aB_t m (zC_p s (by omega)).1 rfl (by omega) (by decide), gd_t, x5, bd_t, bs.1, gd_t, nI_clamp (n := m) (by omega), hpl, (hC.2.2.2 b hb).1 0 (by decide)]
  by_cases c1 : kPl D s m = kBy D b 0
  case' neg =>
    rw [if_neg (fun z => c1 ((nI_eq hplb (by omega)).mp z)), if_neg (show ¬ (G 0 s m = 0 ∧ kPl D s m = kBy D b 0) from fun z => c1 z.2)]
    rfl
  rw [if_pos (by rw [c1]), cr_142_7 hCR, bd_t, aB_t s zC_145 rfl (by omega) (by decide), gd_t, nx_t]
  by_cases c2 : G 0 s m = 0
  case' neg =>
    have e1 : G 0 s m = 1 := by
      have := (hI.1 s hs).1 m
      omega
    rw [if_pos ((bit_cmp1 _ (by omega)).mpr (by rw [hG5 m (by omega), e1]; rfl)), if_neg (show ¬ (G 0 s m = 0 ∧ kPl D s m = kBy D b 0) from fun z => c2 z.1)]
    rfl
  rw [if_neg (fun z => by
    have := (bit_cmp1 _ (by omega)).mp z
    rw [hG5 m (by omega), c2] at this
    exact absurd this (by decide)), if_pos (show G 0 s m = 0 ∧ kPl D s m = kBy D b 0 from ⟨c2, c1⟩), ms.2.2.2.2.2.1 s (by omega), gd_t, hC.2.2.1 s hs 2 (by decide), hwo, bd_t]
  cases hw : kWo D b (kSl D s 2) with
  | none =>
    rw [if_pos rfl]
    rfl
  | some w =>
    dsimp only
    have hwl := (kWo_lt hw).1
    have hk := hby.2.2.2.2.1 w hwl
    have h9 := hI.2.1 w hwl
    rw [if_neg (ne_m1 (by omega)), cr_142_6 hCR, bd_t, aB_t w zC_144 rfl (by omega) (by decide), gd_t, nI_clamp (n := w) (by omega), hG.2.2.2.1 w hwl]
    by_cases c3 : G 1 w 0 = 0
    · rw [if_pos (by rw [c3]; decide), if_pos (Or.inl c3)]
      rfl
    rw [if_neg (nI_nle (by omega) (by omega)), bitCount_eq, bd_t, pcB_tk hG5 64 (Nat.le_refl _), hC.2.2.1 s hs 3 (by decide)]
    have ht := (hI.1 s hs).2
    by_cases c4 : G 2 s 0 = 0
    · rw [if_pos (nI_le (by omega) (by omega)), if_pos (Or.inr (Or.inl c4))]
      rfl
    rw [if_neg (nI_ge (by omega) (by omega)), hQ.1, bd_t, mk_b6 hCR hp (by omega), bd_t, aB_t w bs.2.2.2 rfl (by omega) (by decide), gd_t, ((hC.2.2.2 b hb).2 w hwl).2.2]
    have hq9 := hQ.2
    by_cases c5 : kWt D b w 2 < qpS D s m
    · rw [if_pos (nI_lt c5 (by omega)), if_pos (Or.inr (Or.inr c5))]
      rfl
    · rw [if_neg (nI_nlt (by omega) (by omega)), if_neg (show ¬ (G 1 w 0 = 0 ∨ G 2 s 0 = 0 ∨ kWt D b w 2 < qpS D s m) by omega)]
      rfl
def CcM (M : Mem) (c : Cc) : Prop := match c with
  | none => gI M 142 10 = 100
  | some x => gI M 142 8 = nI x.1 ∧ gI M 142 9 = nI x.2.1 ∧ gI M 142 10 = nI x.2.2 ∧ x.2.2 ≤ 99
theorem avO_le (hX : AX M p D b) {m s q : Nat} (hm : m < kMi D) (hs : s < kNs D) (h : avO D b G m s = some q) : q ≤ 99 := by
  rw [(avO_some h).2.2.1]
  exact (quiet_eq hX.1 hs hm).2
theorem find21 (hX : AX M p D b) (hG : GA M D b G) (hI : IvA D b G) {m : Nat} (hm : m < kMi D) (k8 : Mem → Nat → Int32 → Option (Mem × Int32)) : ∀ n M1 c k, k ≤ kNs D → kNs D < n + k → (OnlyK inF M M1 ∧ CcM M1 c) → ∃ M', (OnlyK inF M M' ∧ CcM M' (foS (fnI D b G m) (kNs D - k) k c)) ∧ f_X0_findNext_21 k8 n M1 142 (nI m) (nI k) = k8 M' 142 (nI (m + 1)) := by
  have hn := hX.1.2.2.2.1.n
  have hMi := hX.1.2.2.2.1.mi
  refine memfold2 (F := fun n M1 (c : Cc) k => f_X0_findNext_21 k8 n M1 142 (nI m) k) (g := fnI D b G m) (R := fun M' _ => k8 M' 142 (nI (m + 1))) (I := fun M1 c => OnlyK inF M M1 ∧ CcM M1 c) (fun n M1 c s hs hM => ?_) (fun n M1 c hM => ?_)
  · obtain ⟨hO, hc⟩ := hM
    have hX1 := hX.onlyL hO.toL
    have hG1 := hG.onlyF hO
    obtain ⟨hp, hCR, -, hW, hC, -⟩ := hX1.1
    have ms := mb_sh p hp
    have hQ := quiet_eq hX1.1 hs hm
    show ∃ M', _ ∧ s_X0_findNext_21 k8 (f_X0_findNext_21 k8 n) M1 142 (nI m) (nI s) = f_X0_findNext_21 k8 n M' 142 (nI m) (nI (s + 1))
    unfold s_X0_findNext_21
    rw [zC_g, gd_t, hX1.2.2.1, bd_t, ms.1, gd_t, hC.1.2.2.2.2.1, if_neg (nI_ge hs (by omega)), toBeHad_eq hX1 hG1 hI hm hs, bd_t, nI_1]
    unfold fnI
    cases ha : avO D b G m s with
    | none =>
      rw [if_pos (show sm01 (none : Option Nat) = 0 from rfl)]
      exact ⟨M1, ⟨hO, hc⟩, rfl⟩
    | some q =>
      have hq := avO_le hX1 hm hs ha
      have hq2 : qpS D s m = q := (avO_some ha).2.2.1.symm
      rw [if_neg (show ¬ sm01 (some q) = 0 from fun z => absurd (show (1 : Int32) = 0 from z) (by decide)), hX1.2.2.2.1, bd_t, mk_7 hCR hp, bd_t, aB_t s ms.2.2.1 rfl (by omega) (by decide), gd_t, nI_clamp (n := s) (by omega), mk_s hCR hp (by omega), bd_t, oC_85, gd_t, hQ.1, bd_t, nx_t, nx_t, nx_t, hq2]
      have hO2 : OnlyK inF M (sI (sI (sI M1 142 8 (nI s)) 142 9 (nI m)) 142 10 (nI q)) := ((hO.I (by unfold inF; omega)).I (by unfold inF; omega)).I (by unfold inF; omega)
      have hc2 : CcM (sI (sI (sI M1 142 8 (nI s)) 142 9 (nI m)) 142 10 (nI q)) (some (s, m, q)) := by
        refine ⟨?_, ?_, ?_, hq⟩
        · rw [gI_sI, if_neg (by omega), gI_sI, if_neg (by omega), gI_sI, if_pos ⟨rfl, rfl⟩]
        · rw [gI_sI, if_neg (by omega), gI_sI, if_pos ⟨rfl, rfl⟩]
        · rw [gI_sI, if_pos ⟨rfl, rfl⟩]
      cases c with
      | none =>
        have hc' : gI M1 142 10 = 100 := hc
        rw [hc', if_neg (show ¬ (100 : Int32) ≤ nI q from nI_ge (b := 100) (by omega) (by decide))]
        exact ⟨_, ⟨hO2, hc2⟩, rfl⟩
      | some x =>
        have hc' : gI M1 142 10 = nI x.2.2 := hc.2.2.1
        have hx9 : x.2.2 ≤ 99 := hc.2.2.2
        dsimp only
        rw [hc']
        by_cases z : q < x.2.2
        · rw [if_neg (nI_ge z (by omega)), if_pos z]
          exact ⟨_, ⟨hO2, hc2⟩, rfl⟩
        · rw [if_pos (nI_le (by omega) (by omega)), if_neg z]
          exact ⟨M1, ⟨hO, hc⟩, rfl⟩
  · have hX1 := hX.onlyL hM.1.toL
    obtain ⟨hp, hCR, -, hW, hC, -⟩ := hX1.1
    show s_X0_findNext_21 k8 (f_X0_findNext_21 k8 n) M1 142 (nI m) (nI (kNs D)) = _
    unfold s_X0_findNext_21
    rw [zC_g, gd_t, hX1.2.2.1, bd_t, (mb_sh p hp).1, gd_t, hC.1.2.2.2.2.1, if_pos (nI_le (Nat.le_refl _) (by omega)), nI_1]
theorem find8 (hX : AX M p D b) (hG : GA M D b G) (hI : IvA D b G) : ∀ n M1 c k, k ≤ kMi D → kMi D < n + k → (OnlyK inF M M1 ∧ CcM M1 c) → ∃ M', (OnlyK inF M M' ∧ CcM M' (foS (fnO D b G) (kMi D - k) k c)) ∧ f_X0_findNext_8 n M1 142 (nI k) = some (M', sm01 (foS (fnO D b G) (kMi D - k) k c)) := by
  have hn := hX.1.2.2.2.1.n
  have hMi := hX.1.2.2.2.1.mi
  refine memfold2 (F := fun n M1 (c : Cc) k => f_X0_findNext_8 n M1 142 k) (g := fnO D b G) (R := fun M' c => some (M', sm01 c)) (I := fun M1 c => OnlyK inF M M1 ∧ CcM M1 c) (fun n M1 c m hm hM => ?_) (fun n M1 c hM => ?_)
  · have hX1 := hX.onlyL hM.1.toL
    obtain ⟨hp, hCR, -, hW, hC, -⟩ := hX1.1
    obtain ⟨M', e1, e2⟩ := find21 hX hG hI hm (f_X0_findNext_8 n) FU M1 c 0 (by omega) (by unfold FU; omega) hM
    refine ⟨M', e1, ?_⟩
    show s_X0_findNext_8 (f_X0_findNext_8 n) M1 142 (nI m) = _
    unfold s_X0_findNext_8
    rw [zC_g, gd_t, hX1.2.2.1, bd_t, (mb_sh p hp).1, gd_t, hC.1.2.1, if_neg (nI_ge hm (by omega))]
    exact e2
  · have hX1 := hX.onlyL hM.1.toL
    obtain ⟨hp, hCR, -, hW, hC, -⟩ := hX1.1
    show s_X0_findNext_8 (f_X0_findNext_8 n) M1 142 (nI (kMi D)) = _
    unfold s_X0_findNext_8
    rw [zC_g, gd_t, hX1.2.2.1, bd_t, (mb_sh p hp).1, gd_t, hC.1.2.1, if_pos (nI_le (Nat.le_refl _) (by omega))]
    cases c with
    | none =>
      have hc' : gI M1 142 10 = 100 := hM.2
      rw [hc', if_pos (by decide)]
      rfl
    | some x =>
      have hc' : gI M1 142 10 = nI x.2.2 := hM.2.2.2.1
      rw [hc', if_neg (show ¬ (99 : Int32) < nI x.2.2 from nI_nlt (a := 99) hM.2.2.2.2 (by decide))]
      rfl
theorem findNext_eq (hX : AX M p D b) (hG : GA M D b G) (hI : IvA D b G) : ∃ M', f_X0_findNext M 142 = some (M', sm01 (fnA D b G)) ∧ OnlyK inF M M' ∧ CcM M' (fnA D b G) := by
  obtain ⟨M', e1, e2⟩ := find8 hX hG hI FU (sI M 142 10 100) none 0 (by omega) (by have := hX.1.2.2.2.1.mi; unfold FU; omega) ⟨OnlyK.rf.I (by unfold inF; omega), by
    show gI (sI M 142 10 100) 142 10 = 100
    rw [gI_sI, if_pos ⟨rfl, rfl⟩]⟩
  refine ⟨M', ?_, e1⟩
  unfold f_X0_findNext
  rw [zC_g, gd_t, nx_t]
  exact e2
theorem takeNext_eq (hX : AX M p D b) (hG : GA M D b G) (hW : WFD D) {x : Nat × Nat × Nat} (hA : avO D b G x.2.1 x.1 = some x.2.2) (hs : x.1 < kNs D) (hm : x.2.1 < kMi D) (hc : CcM M (some x)) : ∃ M', f_X0_takeNext M 142 = some M' ∧ OnlyL inA M M' ∧ GA M' D b (tkG D b x G) := by
  obtain ⟨a1, a2, a3, a4, a5, a6, a7⟩ := avO_some hA
  obtain ⟨c1, c2, c3, c4⟩ := hc
  obtain ⟨hH, hb, x3, x4, x5⟩ := hX
  obtain ⟨hp, hCR, -, -, hC, hT, hP⟩ := hH
  obtain ⟨g1, g2, g3, g4, g5⟩ := hG
  have hn := hW.n
  have hMi := hW.mi
  have ms := mb_sh p hp
  have bs := ms.2.2.2.2.2.2 b (by omega)
  have hsl := hW.2.2.2.2.2.1 x.1 hs
  have hwo := wantOf_eq hp hCR hW hC hb (g := kSl D x.1 2) (by omega)
  rw [a4] at hwo
  have hwl := (kWo_lt a4).1
  have hby := hW.2.2.2.2.2.2 b hb
  refine ⟨sI (sI (sI (sL (sI M 144 (wIx D b x.1) (nI (G 1 (wIx D b x.1) 0) - 1)) 145 x.1 (gL M 145 x.1 ||| (1 <<< ((nI x.2.1).toInt64 &&& 63)))) 143 x.2.1 (nI (G 3 x.2.1 0 + 1))) 142 1 (nI (G 5 0 0 + x.2.2))) 142 0 (nI (G 4 0 0 + 1)), ?_, ((((OnlyL.rf.I (by unfold inA; omega)).L (by unfold inA; omega)).I (by unfold inA; omega)).I (by unfold inA; omega)).I (by unfold inA; omega), ?_, ?_, fun m hm' => ?_, fun w hw => ?_, fun s hs' m hm' => ?_⟩
  · unfold f_X0_takeNext
    rw [zC_g, gd_t, x5, bd_t, x3, bd_t, ms.1, gd_t, mk_7 hCR hp, bd_t, c1, aB_t x.1 ms.2.2.1 rfl (by omega) (by decide), gd_t, nI_clamp (n := x.1) (by omega), mk_s hCR hp (by omega), bd_t, ms.2.2.2.2.2.1 x.1 (by omega), gd_t, bs.1, gd_t, hC.2.2.1 x.1 hs 2 (by decide), hwo, bd_t]
    dsimp only
    rw [if_neg (ne_m1 (by omega)), cr_142_6 hCR, bd_t, aB_t (wIx D b x.1) zC_144 rfl (by omega) (by decide), gd_t, nx_t, nI_clamp (n := wIx D b x.1) (by omega), g4 _ hwl]
    unfold f_X0_takeNext_38
    have n1 : ∀ k, gI (sI M 144 (wIx D b x.1) (nI (G 1 (wIx D b x.1) 0) - 1)) 142 k = gI M 142 k := fun k => by rw [gI_sI, if_neg (by omega)]
    have n2 : ∀ v k, gI (sL (sI M 144 (wIx D b x.1) (nI (G 1 (wIx D b x.1) 0) - 1)) 145 x.1 v) 142 k = gI M 142 k := fun v k => n1 k
    have n3 : ∀ v, gI (sL (sI M 144 (wIx D b x.1) (nI (G 1 (wIx D b x.1) 0) - 1)) 145 x.1 v) 143 x.2.1 = nI (G 3 x.2.1 0) := fun v => by
      show gI (sI M 144 (wIx D b x.1) (nI (G 1 (wIx D b x.1) 0) - 1)) 143 x.2.1 = _
      rw [gI_sI, if_neg (by omega)]
      exact g3 _ hm
    rw [zC_g, gd_t, gR_sI, cr_142_7 hCR, bd_t, n1, c1, aB_t x.1 zC_145 rfl (by omega) (by decide), gd_t, nx_t, nI_clamp (n := x.1) (by omega), n1, c2, nx_t, gR_sL, gR_sI, cr_142_2 hCR, bd_t, n2, c2, aB_t x.2.1 zC_143 rfl (by omega) (by decide), gd_t, nx_t, nI_clamp (n := x.2.1) (by omega), n3, nx_t, nx_t, nx_t, nI_1]
    have o1 : ∀ y v k, gI (sI y 143 x.2.1 v) 142 k = gI y 142 k := fun y v k => by rw [gI_sI, if_neg (by omega)]
    rw [o1, o1, n2, n2, g2, c3, nI_add, gI_sI, if_neg (by omega), o1, n2, g1, nI_1]
    rfl
  · rw [gI_sI, if_pos ⟨rfl, rfl⟩, tk4]
  · rw [gI_sI, if_neg (by omega), gI_sI, if_pos ⟨rfl, rfl⟩, tk5]
  · rw [gI_sI, if_neg (by omega), gI_sI, if_neg (by omega), gI_sI, tk3]
    by_cases e : m = x.2.1
    · rw [if_pos ⟨rfl, e⟩, if_pos e, e]
    · rw [if_neg (fun z => e z.2), if_neg e]
      show gI (sI M 144 (wIx D b x.1) (nI (G 1 (wIx D b x.1) 0) - 1)) 143 m = _
      rw [gI_sI, if_neg (by omega)]
      exact g3 m hm'
  · rw [gI_sI, if_neg (by omega), gI_sI, if_neg (by omega), gI_sI, if_neg (by omega), tk1]
    show gI (sI M 144 (wIx D b x.1) (nI (G 1 (wIx D b x.1) 0) - 1)) 144 w = _
    rw [gI_sI]
    by_cases e : w = wIx D b x.1
    · rw [if_pos ⟨rfl, e⟩, if_pos e, e]
      obtain ⟨y, hy⟩ : ∃ y, G 1 (wIx D b x.1) 0 = y + 1 := ⟨G 1 (wIx D b x.1) 0 - 1, by omega⟩
      rw [hy, nI_pred]
      rfl
    · rw [if_neg (fun z => e z.2), if_neg e]
      exact g4 w hw
  · show bitL (gL (sL (sI M 144 (wIx D b x.1) (nI (G 1 (wIx D b x.1) 0) - 1)) 145 x.1 (gL M 145 x.1 ||| (1 <<< ((nI x.2.1).toInt64 &&& 63)))) 145 s) m = _
    rw [gL_sL, tk0]
    by_cases e : s = x.1
    · subst e
      rw [if_pos ⟨rfl, rfl⟩, bitL_or (by omega) hm', g5 x.1 hs m hm']
      by_cases e2 : m = x.2.1
      · rw [if_pos ⟨rfl, e2⟩, decide_eq_true e2, Bool.or_true]
        rfl
      · rw [if_neg (fun z => e2 z.2), decide_eq_false e2, Bool.or_false]
    · rw [if_neg (fun z => e z.2), if_neg (fun z => e z.1)]
      exact g5 s hs' m hm'
theorem shop75 {C : Nat} (hC : C ≤ 1000000) (hW : WFD D) : ∀ N n G M, N < n → AX M p D b → GA M D b G → IvA D b G → lkA G (kBy D b 3) = N → ∃ M', f_X0_shop_75 n M 142 (nI C) (nI (wnS D b (kBy D b 3))) (nI (G 4 0 0)) = some M' ∧ OnlyL inA M M' ∧ GA M' D b (chL D b C N G) ∧ IvA D b (chL D b C N G) := by
  intro N
  induction N with
  | zero =>
    intro n G M hn hX hG hI hN
    obtain ⟨n, rfl⟩ : ∃ n', n = n' + 1 := ⟨n - 1, by omega⟩
    have hw := wn_le hW hX.2.1 (kBy D b 3) (Nat.le_refl _)
    have h3 := (hW.2.2.2.2.2.2 b hX.2.1).2.2.2.1
    refine ⟨M, ?_, OnlyL.rf, hG, hI⟩
    show s_X0_shop_75 (f_X0_shop_75 n) M 142 _ _ _ = _
    unfold s_X0_shop_75
    have := hI.2.2.1
    rw [if_pos (nI_le (by omega) (by omega))]
  | succ N ih =>
    intro n G M hn hX hG hI hN
    obtain ⟨n, rfl⟩ : ∃ n', n = n' + 1 := ⟨n - 1, by omega⟩
    have hw := wn_le hW hX.2.1 (kBy D b 3) (Nat.le_refl _)
    have h3 := (hW.2.2.2.2.2.2 b hX.2.1).2.2.2.1
    have hwn := hI.2.2.1
    have hsp := hI.2.2.2
    obtain ⟨M1, e1, e2, e3⟩ := findNext_eq hX hG hI
    show ∃ M', s_X0_shop_75 (f_X0_shop_75 n) M 142 _ _ _ = _ ∧ _
    unfold s_X0_shop_75 chL
    have hX1 := hX.onlyL e2.toL
    have hG1 := hG.onlyF e2
    rw [if_neg (nI_ge (by omega) (by omega)), zC_g, gd_t, e1, bd_t]
    have hok := fnA_ok (D := D) (b := b) (G := G)
    cases hf : fnA D b G with
    | none =>
      dsimp only
      rw [if_pos (show sm01 (none : Cc) = 0 from rfl)]
      exact ⟨M1, rfl, e2.toL, hG1, hI⟩
    | some x =>
      rw [hf] at e3
      obtain ⟨o1, o2, o3⟩ := hok x hf
      dsimp only
      have hx9 : x.2.2 ≤ 99 := e3.2.2.2
      have es : (nI C - nI (G 5 0 0)).toInt = (C : Int) - (G 5 0 0 : Nat) := pk_sub_toInt (by omega) (by omega)
      rw [if_neg (show ¬ sm01 (some x) = 0 from fun z => absurd (show (1 : Int32) = 0 from z) (by decide)), hG1.2.1, e3.2.2.1]
      by_cases z : C < G 5 0 0 + x.2.2
      · rw [if_pos (by
          rw [Int32.lt_iff_toInt_lt, es, nI_toInt (by omega)]
          omega), if_pos z]
        exact ⟨M1, rfl, e2.toL, hG1, hI⟩
      · rw [if_neg (fun y => by
          have := Int32.lt_iff_toInt_lt.mp y
          rw [es, nI_toInt (by omega)] at this
          omega), if_neg z]
        obtain ⟨M2, t1, t2, t3⟩ := takeNext_eq hX1 hG1 hW o1 o2 o3 e3
        have hI2 := hI.tk hW o1 o2 o3 hx9
        have hl := lk_tk o1
        obtain ⟨M3, u1, u2, u3, u4⟩ := ih n (tkG D b x G) M2 (by omega) (hX1.onlyL t2) t3 hI2 (by omega)
        rw [tk4] at u1
        rw [t1, bd_t, nI_1]
        exact ⟨M3, u1, (e2.toL.tr t2).tr u2, u3, u4⟩
end AL
