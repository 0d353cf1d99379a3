/-! THE POST, class side -/
def inPo (a : Nat) : Prop := 146 ≤ a ∧ a ≤ 148
theorem HC.onlyP {M M' : Mem} {p : Nat} {D : MK} (h : HC M p D) (hO : OnlyL inPo M M') : HC M' p D := by
  obtain ⟨h1, h2, h3, h4, h5, h6, h7⟩ := h
  have hn := h4.n
  refine ⟨h1, hO.CR h2, by rw [hO.gR]; exact h3, h4, h5.keep hn (fun a q1 q2 => hO.2 a (fun z => ?_)), fun r hr m hm => ?_, fun s hs m hm => ?_⟩
  · have := mb_out h1 (a := a) (by unfold inPo at z; omega) (by unfold inPo at z; omega)
    omega
  · rw [(hO.2 _ (by unfold inPo; omega)).1]; exact h6 r hr m hm
  · rw [(hO.2 _ (by unfold inPo; omega)).1]; exact h7 s hs m hm
/-- x is the least number of which P holds, up to B, or 1000000 where there is none -/
def Ch (B : Nat) (P : Nat → Prop) (x : Int32) : Prop := (x = 1000000 ∧ ∀ n, ¬ P n) ∨ ∃ h, h ≤ B ∧ x = nI h ∧ ∀ n, P n ↔ h ≤ n
theorem Ch.cong {B B' : Nat} {P P' : Nat → Prop} {x : Int32} (h : Ch B P x) (hB : B ≤ B') (e : ∀ n, P' n ↔ P n) : Ch B' P' x := by
  rcases h with ⟨h1, h2⟩ | ⟨k, h1, h2, h3⟩
  · exact Or.inl ⟨h1, fun n z => h2 n ((e n).mp z)⟩
  · exact Or.inr ⟨k, by omega, h2, fun n => (e n).trans (h3 n)⟩
theorem nI_mil {h : Nat} (hB : h ≤ 1000) : ¬ nI h = 1000000 := fun z => by
  have := (nI_eq (a := h) (b := 1000000) (by omega) (by decide)).mp z
  omega
theorem Ch.min {M : Mem} {B : Nat} {P P' : Nat → Prop} {x y : Int32} (h : Ch B P x) (h' : Ch B P' y) (hB : B ≤ 1000) : ∃ z, f_X20_min M x y = some z ∧ Ch B (fun n => P n ∨ P' n) z := by
  unfold f_X20_min
  rcases h with ⟨rfl, h2⟩ | ⟨k, h1, rfl, h3⟩
  · rcases h' with ⟨rfl, g2⟩ | ⟨j, g1, rfl, g3⟩
    · rw [if_neg (by decide)]
      exact ⟨_, rfl, Or.inl ⟨rfl, fun n z => z.elim (h2 n) (g2 n)⟩⟩
    · rw [if_pos (show nI j < (1000000 : Int32) from nI_lt (b := 1000000) (by omega) (by decide))]
      exact ⟨_, rfl, Or.inr ⟨j, g1, rfl, fun n => ⟨fun z => z.elim (fun y => absurd y (h2 n)) (g3 n).mp, fun z => Or.inr ((g3 n).mpr z)⟩⟩⟩
  · rcases h' with ⟨rfl, g2⟩ | ⟨j, g1, rfl, g3⟩
    · rw [if_neg (show ¬ (1000000 : Int32) < nI k from nI_nlt (a := 1000000) (by omega) (by decide))]
      exact ⟨_, rfl, Or.inr ⟨k, h1, rfl, fun n => ⟨fun z => z.elim (h3 n).mp (fun y => absurd y (g2 n)), fun z => Or.inl ((h3 n).mpr z)⟩⟩⟩
    · by_cases c : j < k
      · rw [if_pos (nI_lt c (by omega))]
        exact ⟨_, rfl, Or.inr ⟨j, g1, rfl, fun n => ⟨fun z => z.elim (fun y => by have := (h3 n).mp y; omega) (g3 n).mp, fun z => Or.inr ((g3 n).mpr z)⟩⟩⟩
      · rw [if_neg (nI_nlt (by omega) (by omega))]
        exact ⟨_, rfl, Or.inr ⟨k, h1, rfl, fun n => ⟨fun z => z.elim (h3 n).mp (fun y => by have := (g3 n).mp y; omega), fun z => Or.inl ((h3 n).mpr z)⟩⟩⟩
theorem zC_po : oB shC 146 5 = true := by decide +kernel
section PO
variable {p f to m0 : Nat} {D : MK}
def LaP (D : MK) (f m0 s m n : Nat) : Prop := ∃ n', n = n' + 1 ∧ Ll D f m0 n' s m
def HxP (D : MK) (f m0 to q m n : Nat) : Prop := okB D f q = true ∧ q ≠ to ∧ (q = f ∨ sT D f m0 n q < m)
/-- in unload, ahead of the stall k -/
def UnI (D : MK) (f m0 to m k : Nat) (M : Mem) : Prop :=
  (∀ q, q < kP D → Ch m (fun n => HxP D f m0 to q m n ∨ (hoB D q = true ∧ q ≠ to ∧ ∃ s, s < k ∧ kPl D s m = q ∧ LaP D f m0 s m n)) (gI M 147 q)) ∧
  (∀ s, s < kNs D → Ch m (LaP D f m0 s m) (gI M 148 s)) ∧
  ((gI M 146 0 = -1 ∧ ∀ s, s < k → kPl D s m = to → ∀ n, ¬ LaP D f m0 s m n) ∨ (gI M 146 0 = nI m ∧ ∃ s, s < k ∧ kPl D s m = to ∧ ∃ n, LaP D f m0 s m n)) ∧
  Ch m (fun n => ∃ s, s < k ∧ kPl D s m = to ∧ LaP D f m0 s m n) (gI M 146 1)
theorem ex_succ {k : Nat} {P : Nat → Prop} : (∃ s, s < k + 1 ∧ P s) ↔ (∃ s, s < k ∧ P s) ∨ P k := by
  constructor
  · rintro ⟨s, a, b⟩
    by_cases e : s = k
    · subst e
      exact Or.inr b
    · exact Or.inl ⟨s, by omega, b⟩
  · rintro (⟨s, a, b⟩ | b)
    · exact ⟨s, by omega, b⟩
    · exact ⟨k, by omega, b⟩
theorem unload_loop {M : Mem} (hH : HC M p D) (hft : f ≠ to) (hto : to < kP D) {m : Nat} (hm : m < kMi D) : ∀ n k M1, k ≤ kNs D → kNs D < n + k → OnlyL inPo M M1 → UnI D f m0 to m k M1 → ∃ M', f_X5_unload_3 n M1 146 p 85 (nI to) (nI m) (nI k) = some M' ∧ OnlyL inPo M M' ∧ UnI D f m0 to m (kNs D) M' := by
  have hW := hH.2.2.2.1
  have hn := hW.n
  have hMi := hW.mi
  have hkP := hW.p
  intro n
  induction n with
  | zero => intro k M1 h1 h2; omega
  | succ n ih =>
    intro k M1 h1 h2 hO hU
    have hH1 := hH.onlyP hO
    obtain ⟨hp, hCR, -, -, hC, hT, hPl⟩ := hH1
    have ms := mb_sh p hp
    show ∃ M', s_X5_unload_3 (f_X5_unload_3 n) M1 146 p 85 (nI to) (nI m) (nI k) = _ ∧ _
    unfold s_X5_unload_3
    rw [ms.1, gd_t, hC.1.2.2.2.2.1]
    by_cases e : k = kNs D
    · subst e
      rw [if_pos (nI_le (Nat.le_refl _) (by omega))]
      exact ⟨M1, rfl, hO, hU⟩
    have hk : k < kNs D := by omega
    have hpl : gI M1 (91 + k) m = nI (kPl D k m) := hPl k hk m hm
    have hplt := kPl_lt (D := D) (show 0 < kP D by omega) k m
    obtain ⟨u1, u2, u3, u4⟩ := hU
    rw [if_neg (nI_ge hk (by omega)), oC_85, gd_t, cr_85_1 hCR, bd_t, aB_t k zC_90 rfl (by omega) (by decide), gd_t, nI_clamp (n := k) (by omega), cr_p hCR (by omega), bd_t, aB_t m (zC_p k (by omega)).1 rfl (by omega) (by decide), gd_t, zC_po, gd_t, cr_146_3 hCR, bd_t, aB_t k zC_148 rfl (by omega) (by decide), gd_t, nI_clamp (n := m) (by omega), hpl, nI_1]
    by_cases c1 : gI M1 148 k = 1000000
    · have hno : ∀ n, ¬ LaP D f m0 k m n := by
        rcases u2 k hk with z | ⟨h, z1, z2, -⟩
        · exact z.2
        · rw [z2] at c1
          exact absurd c1 (nI_mil (by omega))
      rw [if_pos c1]
      refine ih (k + 1) M1 (by omega) (by omega) hO ⟨fun q hq => (u1 q hq).cong (Nat.le_refl _) (fun n => ?_), u2, ?_, u4.cong (Nat.le_refl _) (fun n => ?_)⟩
      · rw [ex_succ]
        constructor
        · rintro (z | ⟨z1, z2, z3 | z3⟩)
          · exact Or.inl z
          · exact Or.inr ⟨z1, z2, z3⟩
          · exact absurd z3.2 (hno n)
        · rintro (z | ⟨z1, z2, z3⟩)
          · exact Or.inl z
          · exact Or.inr ⟨z1, z2, Or.inl z3⟩
      · rcases u3 with ⟨z1, z2⟩ | ⟨z1, s, z2⟩
        · refine Or.inl ⟨z1, fun s hs => ?_⟩
          by_cases e2 : s = k
          · subst e2
            exact fun _ => hno
          · exact z2 s (by omega)
        · exact Or.inr ⟨z1, s, by omega, z2.2⟩
      · rw [ex_succ]
        exact ⟨fun z => z.elim id (fun y => absurd y.2 (hno n)), Or.inl⟩
    rw [if_neg c1]
    have hsome : ∃ h, h ≤ m ∧ gI M1 148 k = nI h ∧ ∀ n, LaP D f m0 k m n ↔ h ≤ n := by
      rcases u2 k hk with z | z
      · exact absurd z.1 c1
      · exact z
    obtain ⟨h, hh1, hh2, hh3⟩ := hsome
    by_cases c2 : kPl D k m = to
    · have hmin := Ch.min (M := sI M1 146 0 (nI m)) u4 (u2 k hk) (by omega)
      obtain ⟨z, z1, z2⟩ := hmin
      have e148 : gI (sI M1 146 0 (nI m)) 148 k = gI M1 148 k := by rw [gI_sI, if_neg (by omega)]
      have e146 : gI (sI M1 146 0 (nI m)) 146 1 = gI M1 146 1 := by rw [gI_sI, if_neg (by omega)]
      rw [if_pos (by rw [c2]), nx_t, e148, e146, z1, bd_t, nx_t]
      refine ih (k + 1) _ (by omega) (by omega) ((hO.I (by unfold inPo; omega)).I (by unfold inPo; omega)) ⟨fun q hq => ?_, fun s hs => ?_, Or.inr ⟨?_, k, by omega, c2, h, (hh3 h).mpr (Nat.le_refl _)⟩, ?_⟩
      · rw [gI_sI, if_neg (by omega), gI_sI, if_neg (by omega)]
        refine (u1 q hq).cong (Nat.le_refl _) (fun n => ?_)
        rw [ex_succ]
        constructor
        · rintro (z | ⟨z1, z2, z3 | z3⟩)
          · exact Or.inl z
          · exact Or.inr ⟨z1, z2, z3⟩
          · exact absurd (z3.1.symm.trans c2) z2
        · rintro (z | ⟨z1, z2, z3⟩)
          · exact Or.inl z
          · exact Or.inr ⟨z1, z2, Or.inl z3⟩
      · rw [gI_sI, if_neg (by omega), gI_sI, if_neg (by omega)]
        exact u2 s hs
      · rw [gI_sI, if_neg (by omega), gI_sI, if_pos ⟨rfl, rfl⟩]
      · rw [gI_sI, if_pos ⟨rfl, rfl⟩]
        refine z2.cong (Nat.le_refl _) (fun n => ?_)
        rw [ex_succ]
        exact ⟨fun y => y.elim Or.inl (fun x => Or.inr x.2), fun y => y.elim Or.inl (fun x => Or.inr ⟨c2, x⟩)⟩
    rw [if_neg (fun z => c2 ((nI_eq (by omega) (by omega)).mp z)), buyersAt_eq hp hCR hW hC (by omega), bd_t]
    have u3' : (gI M1 146 0 = -1 ∧ ∀ s, s < k + 1 → kPl D s m = to → ∀ n, ¬ LaP D f m0 s m n) ∨ (gI M1 146 0 = nI m ∧ ∃ s, s < k + 1 ∧ kPl D s m = to ∧ ∃ n, LaP D f m0 s m n) := by
      rcases u3 with ⟨z1, z2⟩ | ⟨z1, s, z2⟩
      · refine Or.inl ⟨z1, fun s hs => ?_⟩
        by_cases e2 : s = k
        · subst e2
          exact fun y => absurd y c2
        · exact z2 s (by omega)
      · exact Or.inr ⟨z1, s, by omega, z2.2⟩
    have u4' : Ch m (fun n => ∃ s, s < k + 1 ∧ kPl D s m = to ∧ LaP D f m0 s m n) (gI M1 146 1) := u4.cong (Nat.le_refl _) (fun n => by
      rw [ex_succ]
      exact ⟨fun z => z.elim id (fun y => absurd y.1 c2), Or.inl⟩)
    have hbl : bzN D (kPl D k m) (kNb D) < 64 := by
      have := bz_lt D (kPl D k m) (kNb D)
      have : 2 ^ kNb D ≤ 2 ^ 6 := Nat.pow_le_pow_right (by decide) (by omega)
      omega
    by_cases c3 : bzN D (kPl D k m) (kNb D) = 0
    · have hno : hoB D (kPl D k m) = false := by
        unfold hoB
        rw [c3]
        rfl
      rw [if_pos (by rw [c3]; rfl)]
      refine ih (k + 1) M1 (by omega) (by omega) hO ⟨fun q hq => (u1 q hq).cong (Nat.le_refl _) (fun n => ?_), u2, u3', u4'⟩
      rw [ex_succ]
      constructor
      · rintro (z | ⟨z1, z2, z3 | z3⟩)
        · exact Or.inl z
        · exact Or.inr ⟨z1, z2, z3⟩
        · rw [z3.1] at hno
          rw [hno] at z1
          exact absurd z1 (by decide)
      · rintro (z | ⟨z1, z2, z3⟩)
        · exact Or.inl z
        · exact Or.inr ⟨z1, z2, Or.inl z3⟩
    · have hyes : hoB D (kPl D k m) = true := by
        unfold hoB
        exact decide_eq_true c3
      obtain ⟨z, z1, z2⟩ := Ch.min (M := M1) (u1 (kPl D k m) hplt) (u2 k hk) (by omega)
      rw [if_neg (nI_ne0 (by omega) (by omega)), cr_146_2 hCR, bd_t, aB_t (kPl D k m) zC_147 rfl (by omega) (by decide), gd_t, nx_t, nI_clamp (n := kPl D k m) (by omega), z1, bd_t, nx_t]
      refine ih (k + 1) _ (by omega) (by omega) (hO.I (by unfold inPo; omega)) ⟨fun q hq => ?_, fun s hs => ?_, ?_, ?_⟩
      · rw [gI_sI]
        by_cases e2 : q = kPl D k m
        · rw [if_pos ⟨rfl, e2⟩, e2]
          refine z2.cong (Nat.le_refl _) (fun n => ?_)
          rw [ex_succ]
          constructor
          · rintro (z | ⟨z1, z2, z3 | z3⟩)
            · exact Or.inl (Or.inl z)
            · exact Or.inl (Or.inr ⟨z1, z2, z3⟩)
            · exact Or.inr z3.2
          · rintro ((z | ⟨z1, z2, z3⟩) | z)
            · exact Or.inl z
            · exact Or.inr ⟨z1, z2, Or.inl z3⟩
            · exact Or.inr ⟨hyes, c2, Or.inr ⟨rfl, z⟩⟩
        · rw [if_neg (fun z => e2 z.2)]
          refine (u1 q hq).cong (Nat.le_refl _) (fun n => ?_)
          rw [ex_succ]
          constructor
          · rintro (z | ⟨z1, z2, z3 | z3⟩)
            · exact Or.inl z
            · exact Or.inr ⟨z1, z2, z3⟩
            · exact absurd z3.1.symm e2
          · rintro (z | ⟨z1, z2, z3⟩)
            · exact Or.inl z
            · exact Or.inr ⟨z1, z2, Or.inl z3⟩
      · rw [gI_sI, if_neg (by omega)]
        exact u2 s hs
      · rw [gI_sI, if_neg (by omega)]
        exact u3'
      · rw [gI_sI, if_neg (by omega)]
        exact u4'
/-- in load, ahead of the stall k: no arrival yet -/
def LoI (D : MK) (f m0 to m k : Nat) (M : Mem) : Prop :=
  (∀ q, q < kP D → Ch m (HxP D f m0 to q (m + 1)) (gI M 147 q)) ∧
  (∀ s, s < kNs D → Ch (m + 1) (if s < k then LaP D f m0 s (m + 1) else LaP D f m0 s m) (gI M 148 s))
theorem LaP_next (hP : 0 < kP D) (hM : kMi D ≤ 60) (h0 : m0 < kMi D) {m s : Nat} (hmm : m0 ≤ m) (hna : ∀ n, ¬ sT D f m0 n to ≤ m) (n : Nat) : LaP D f m0 s (m + 1) n ↔ LaP D f m0 s m n ∨ ∃ n', n = n' + 1 ∧ HxP D f m0 to (kPl D s m) (m + 1) n' := by
  unfold LaP Ll HxP
  constructor
  · rintro ⟨n', rfl, m1, a, b, c⟩
    by_cases e : m1 = m
    · subst e
      refine Or.inr ⟨n', rfl, b, fun z => hna n' (by rw [← z]; exact c), ?_⟩
      exact Or.inr (by omega)
    · exact Or.inl ⟨n', rfl, m1, by omega, b, c⟩
  · rintro (⟨n', rfl, m1, a, b, c⟩ | ⟨n', rfl, b, c, d⟩)
    · exact ⟨n', rfl, m1, by omega, b, c⟩
    · refine ⟨n', rfl, m, by omega, b, ?_⟩
      rcases d with d | d
      · rw [d, sT_f hP hM h0]
        exact hmm
      · omega
theorem load_loop {M : Mem} (hH : HC M p D) (h0 : m0 < kMi D) {m : Nat} (hm : m < kMi D) (hmm : m0 ≤ m) (hna : ∀ n, ¬ sT D f m0 n to ≤ m) (hP0 : 0 < kP D) : ∀ n k M1, k ≤ kNs D → kNs D < n + k → OnlyL (· = 148) M M1 → LoI D f m0 to m k M1 → ∃ M', f_X5_load_3 n M1 146 p 85 (nI m) (nI k) = some M' ∧ OnlyL (· = 148) M M' ∧ LoI D f m0 to m (kNs D) M' := by
  have hW := hH.2.2.2.1
  have hn := hW.n
  have hMi := hW.mi
  have hkP := hW.p
  intro n
  induction n with
  | zero => intro k M1 h1 h2; omega
  | succ n ih =>
    intro k M1 h1 h2 hO hU
    have hH1 := hH.onlyP (hO.mono (fun a z => by unfold inPo; omega))
    obtain ⟨hp, hCR, -, -, hC, hT, hPl⟩ := hH1
    have ms := mb_sh p hp
    show ∃ M', s_X5_load_3 (f_X5_load_3 n) M1 146 p 85 (nI m) (nI k) = _ ∧ _
    unfold s_X5_load_3
    rw [ms.1, gd_t, hC.1.2.2.2.2.1]
    by_cases e : k = kNs D
    · subst e
      rw [if_pos (nI_le (Nat.le_refl _) (by omega))]
      exact ⟨M1, rfl, hO, hU⟩
    have hk : k < kNs D := by omega
    have hpl : gI M1 (91 + k) m = nI (kPl D k m) := hPl k hk m hm
    have hplt := kPl_lt (D := D) hP0 k m
    obtain ⟨u1, u2⟩ := hU
    have hl := u2 k hk
    rw [if_neg (show ¬ k < k by omega)] at hl
    rw [if_neg (nI_ge hk (by omega)), oC_85, gd_t, cr_85_1 hCR, bd_t, aB_t k zC_90 rfl (by omega) (by decide), gd_t, nI_clamp (n := k) (by omega), cr_p hCR (by omega), bd_t, aB_t m (zC_p k (by omega)).1 rfl (by omega) (by decide), gd_t, zC_po, gd_t, cr_146_2 hCR, bd_t, nI_clamp (n := m) (by omega), hpl, aB_t (kPl D k m) zC_147 rfl (by omega) (by decide), gd_t, nx_t, nI_clamp (n := kPl D k m) (by omega), nI_1]
    have step : ∀ x, Ch (m + 1) (LaP D f m0 k (m + 1)) x → OnlyL (· = 148) M (sI M1 148 k x) ∧ LoI D f m0 to m (k + 1) (sI M1 148 k x) := fun x hx => by
      refine ⟨hO.I rfl, fun q hq => ?_, fun s hs => ?_⟩
      · rw [gI_sI, if_neg (by omega)]
        exact u1 q hq
      · by_cases e2 : s = k
        · have eg : gI (sI M1 148 k x) 148 s = x := by rw [gI_sI, if_pos ⟨rfl, e2⟩]
          rw [eg, if_pos (show s < k + 1 by omega), e2]
          exact hx
        · have eg : gI (sI M1 148 k x) 148 s = gI M1 148 s := by rw [gI_sI, if_neg (fun z => e2 z.2)]
          rw [eg]
          have := u2 s hs
          by_cases e3 : s < k
          · rw [if_pos e3] at this
            rw [if_pos (show s < k + 1 by omega)]
            exact this
          · rw [if_neg e3] at this
            rw [if_neg (show ¬ s < k + 1 by omega)]
            exact this
    rcases u1 (kPl D k m) hplt with ⟨z1, z2⟩ | ⟨h, z1, z2, z3⟩
    · rw [z1, if_pos (by decide)]
      refine ih (k + 1) M1 (by omega) (by omega) hO ⟨u1, fun s hs => ?_⟩
      have := u2 s hs
      by_cases e2 : s = k
      · subst e2
        rw [if_pos (by omega)]
        exact hl.cong (Nat.le_refl _) (fun n => by
          rw [LaP_next hP0 hMi h0 hmm hna]
          exact ⟨fun z => z.elim id (fun ⟨n', _, y⟩ => absurd y (z2 n')), Or.inl⟩)
      · by_cases e3 : s < k
        · rw [if_pos e3] at this
          rw [if_pos (by omega)]
          exact this
        · rw [if_neg e3] at this
          rw [if_neg (by omega)]
          exact this
    · have hc2 : Ch (m + 1) (fun n => ∃ n', n = n' + 1 ∧ HxP D f m0 to (kPl D k m) (m + 1) n') (nI (h + 1)) := Or.inr ⟨h + 1, by omega, rfl, fun n => ⟨fun ⟨n', e1, e2⟩ => by have := (z3 n').mp e2; omega, fun z => ⟨n - 1, by omega, (z3 _).mpr (by omega)⟩⟩⟩
      obtain ⟨y, y1, y2⟩ := Ch.min (M := M1) hl hc2 (by omega)
      have e147 : gI M1 147 (kPl D k m) = nI h := z2
      rw [z2, if_neg (show ¬ (1000000 : Int32) ≤ nI h from nI_ge (b := 1000000) (by omega) (by decide)), cr_146_3 hCR, bd_t, aB_t k zC_148 rfl (by omega) (by decide), gd_t, nx_t, nI_1, y1, bd_t, nx_t]
      have hs := step y (y2.cong (Nat.le_refl _) (fun n => LaP_next hP0 hMi h0 hmm hna n))
      exact ih (k + 1) _ (by omega) (by omega) hs.1 hs.2
/-- a load ends, whatever is held -/
theorem load_any {M : Mem} (hH : HC M p D) {m : Nat} (hm : m < kMi D) (hP0 : 0 < kP D) : ∀ n k M1, k ≤ kNs D → kNs D < n + k → OnlyL (· = 148) M M1 → ∃ M', f_X5_load_3 n M1 146 p 85 (nI m) (nI k) = some M' ∧ OnlyL (· = 148) M M' := by
  have hW := hH.2.2.2.1
  have hn := hW.n
  have hMi := hW.mi
  have hkP := hW.p
  intro n
  induction n with
  | zero => intro k M1 h1 h2; omega
  | succ n ih =>
    intro k M1 h1 h2 hO
    have hH1 := hH.onlyP (hO.mono (fun a z => by unfold inPo; omega))
    obtain ⟨hp, hCR, -, -, hC, hT, hPl⟩ := hH1
    show ∃ M', s_X5_load_3 (f_X5_load_3 n) M1 146 p 85 (nI m) (nI k) = _ ∧ _
    unfold s_X5_load_3
    rw [(mb_sh p hp).1, gd_t, hC.1.2.2.2.2.1]
    by_cases e : k = kNs D
    · subst e
      rw [if_pos (nI_le (Nat.le_refl _) (by omega))]
      exact ⟨M1, rfl, hO⟩
    have hk : k < kNs D := by omega
    have hpl : gI M1 (91 + k) m = nI (kPl D k m) := hPl k hk m hm
    have hplt := kPl_lt (D := D) hP0 k m
    rw [if_neg (nI_ge hk (by omega)), oC_85, gd_t, cr_85_1 hCR, bd_t, aB_t k zC_90 rfl (by omega) (by decide), gd_t, nI_clamp (n := k) (by omega), cr_p hCR (by omega), bd_t, aB_t m (zC_p k (by omega)).1 rfl (by omega) (by decide), gd_t, zC_po, gd_t, cr_146_2 hCR, bd_t, nI_clamp (n := m) (by omega), hpl, aB_t (kPl D k m) zC_147 rfl (by omega) (by decide), gd_t, nx_t, nI_clamp (n := kPl D k m) (by omega), nI_1]
    by_cases c : (1000000 : Int32) ≤ gI M1 147 (kPl D k m)
    · rw [if_pos c]
      exact ih (k + 1) M1 (by omega) (by omega) hO
    · have hmin : ∃ z, f_X20_min M1 (gI M1 148 k) (gI M1 147 (kPl D k m) + 1) = some z := by
        unfold f_X20_min
        split
        · exact ⟨_, rfl⟩
        · exact ⟨_, rfl⟩
      obtain ⟨z, hz⟩ := hmin
      rw [if_neg c, cr_146_3 hCR, bd_t, aB_t k zC_148 rfl (by omega) (by decide), gd_t, nx_t, hz, bd_t, nx_t]
      exact ih (k + 1) _ (by omega) (by omega) (hO.I rfl)
/-- ahead of a minute: no arrival yet -/
def BrI (D : MK) (f m0 to m : Nat) (M : Mem) : Prop :=
  (∀ q, q < kP D → Ch m (HxP D f m0 to q m) (gI M 147 q)) ∧ (∀ s, s < kNs D → Ch m (LaP D f m0 s m) (gI M 148 s)) ∧ gI M 146 0 = -1 ∧ gI M 146 1 = 1000000 ∧ ∀ n, ¬ sT D f m0 n to < m
/-- the end: it is there in the least minute by the fewest stalls, or never -/
def BrE (D : MK) (f m0 to : Nat) (M : Mem) : Prop := (sT D f m0 (kP D) to = 1000000 ∧ gI M 146 0 = -1 ∧ gI M 146 1 = -1) ∨ (sT D f m0 (kP D) to < kMi D ∧ gI M 146 0 = nI (sT D f m0 (kP D) to) ∧ ∃ h, h ≤ 60 ∧ gI M 146 1 = nI h ∧ ∀ n, sT D f m0 n to ≤ sT D f m0 (kP D) to ↔ h ≤ n)
theorem hx_next (hP : 0 < kP D) (hM : kMi D ≤ 60) {q m : Nat} (hm : m < kMi D) (n : Nat) : HxP D f m0 to q (m + 1) n ↔ HxP D f m0 to q m n ∨ (hoB D q = true ∧ q ≠ to ∧ ∃ s, s < kNs D ∧ kPl D s m = q ∧ LaP D f m0 s m n) := by
  unfold HxP
  by_cases hq : q = f
  · subst hq
    constructor
    · exact fun z => Or.inl ⟨z.1, z.2.1, Or.inl rfl⟩
    · rintro (z | z)
      · exact ⟨z.1, z.2.1, Or.inl rfl⟩
      · exact ⟨by simp [okB], z.2.1, Or.inl rfl⟩
  have ok : okB D f q = hoB D q := by simp [okB, hq]
  rw [ok]
  have hE := fun x (hx : x < 1000000) => sT_E (f := f) (m0 := m0) hP hM hq hx n
  constructor
  · rintro ⟨z1, z2, z3 | z3⟩
    · exact absurd z3 hq
    · obtain ⟨n', rfl, s, m2, s1, b4, b2, b3, b5⟩ := (hE m (by omega)).mp (by omega)
      by_cases e : m2 = m
      · subst e
        exact Or.inr ⟨z1, z2, s, s1, b3, n', rfl, b5⟩
      · refine Or.inl ⟨z1, z2, Or.inr ?_⟩
        have := (hE m2 (by omega)).mpr ⟨n', rfl, s, m2, s1, Nat.le_refl _, b2, b3, b5⟩
        omega
  · rintro (⟨z1, z2, z3 | z3⟩ | ⟨z1, z2, s, s1, b3, n', rfl, b5⟩)
    · exact absurd z3 hq
    · exact ⟨z1, z2, Or.inr (by omega)⟩
    · refine ⟨z1, z2, Or.inr ?_⟩
      have := (hE m (by omega)).mpr ⟨n', rfl, s, m, s1, Nat.le_refl _, hm, b3, b5⟩
      omega
theorem arr_iff (hP : 0 < kP D) (hM : kMi D ≤ 60) (hft : f ≠ to) {m : Nat} (hm : m < kMi D) (hna : ∀ n, ¬ sT D f m0 n to < m) (n : Nat) : sT D f m0 n to ≤ m ↔ ∃ s, s < kNs D ∧ kPl D s m = to ∧ LaP D f m0 s m n := by
  have hE := fun x (hx : x < 1000000) => sT_E (f := f) (m0 := m0) hP hM (fun z => hft z.symm) hx n
  constructor
  · intro z
    obtain ⟨n', rfl, s, m2, s1, b4, b2, b3, b5⟩ := (hE m (by omega)).mp z
    by_cases e : m2 = m
    · subst e
      exact ⟨s, s1, b3, n', rfl, b5⟩
    · have := (hE m2 (by omega)).mpr ⟨n', rfl, s, m2, s1, Nat.le_refl _, b2, b3, b5⟩
      exact absurd (by omega) (hna (n' + 1))
  · rintro ⟨s, s1, b3, n', rfl, b5⟩
    exact (hE m (by omega)).mpr ⟨n', rfl, s, m, s1, Nat.le_refl _, hm, b3, b5⟩
theorem bring40 {M : Mem} (hH : HC M p D) (hft : f ≠ to) (hto : to < kP D) (h0 : m0 < kMi D) : ∀ n m M1, m0 ≤ m → m ≤ kMi D → kMi D < n + m → OnlyL inPo M M1 → (BrI D f m0 to m M1 ∨ (BrE D f m0 to M1 ∧ gI M1 146 0 ≠ -1)) → ∃ M', f_X5_bring_40 n M1 146 p 85 (nI to) (nI m) = some M' ∧ OnlyL inPo M M' ∧ BrE D f m0 to M' := by
  have hW := hH.2.2.2.1
  have hn := hW.n
  have hMi := hW.mi
  have hkP := hW.p
  have hP0 : 0 < kP D := by omega
  intro n
  induction n with
  | zero => intro m M1 h1 h2 h3; omega
  | succ n ih =>
    intro m M1 h1 h2 h3 hO hI
    have hH1 := hH.onlyP hO
    obtain ⟨hp, hCR, -, -, hC, hT, hPl⟩ := hH1
    have ms := mb_sh p hp
    show ∃ M', s_X5_bring_40 (f_X5_bring_40 n) M1 146 p 85 (nI to) (nI m) = _ ∧ _
    unfold s_X5_bring_40
    rw [ms.1, gd_t, hC.1.2.1]
    rcases hI with ⟨i1, i2, i3, i4, i5⟩ | ⟨hE, hne⟩
    case' inr =>
      have e81 : f_X5_bring_81 M1 146 = some M1 := by
        unfold f_X5_bring_81
        rw [zC_po, gd_t, if_neg hne]
      rw [e81, zC_po, gd_t, if_neg hne]
      refine ⟨M1, ?_, hO, hE⟩
      split <;> rfl
    by_cases e : m = kMi D
    · subst e
      rw [if_pos (nI_le (Nat.le_refl _) (by omega))]
      unfold f_X5_bring_81
      rw [zC_po, gd_t, if_pos i3, nx_t]
      refine ⟨_, rfl, hO.I (by unfold inPo; omega), Or.inl ⟨?_, ?_, ?_⟩⟩
      · rcases sT_val (f := f) (q := to) hP0 hMi h0 (kP D) with z | z
        · exact absurd z (i5 _)
        · exact z
      · rw [gI_sI, if_neg (by omega)]
        exact i3
      · rw [gI_sI, if_pos ⟨rfl, rfl⟩]
    have hm : m < kMi D := by omega
    obtain ⟨Ma, a1, a2, a3⟩ := unload_loop (f := f) (to := to) (m0 := m0) hH hft hto hm FU 0 M1 (by omega) (by unfold FU; omega) hO ⟨fun q hq => (i1 q hq).cong (Nat.le_refl _) (fun n => ⟨fun z => z.elim id (fun y => by obtain ⟨_, _, s, hs, _⟩ := y; omega), Or.inl⟩), i2, Or.inl ⟨i3, fun s hs => by omega⟩, by
      rw [i4]
      exact Or.inl ⟨rfl, fun n ⟨s, hs, _⟩ => by omega⟩⟩
    obtain ⟨u1, u2, u3, u4⟩ := a3
    have ea : f_X5_unload M1 146 p 85 (nI to) (nI m) = some Ma := a1
    rw [if_neg (nI_ge hm (by omega)), zC_po, gd_t, if_pos i3, ea, bd_t]
    have hHa := hH.onlyP a2
    have v1 : ∀ q, q < kP D → Ch m (HxP D f m0 to q (m + 1)) (gI Ma 147 q) := fun q hq => (u1 q hq).cong (Nat.le_refl _) (fun n => hx_next hP0 hMi hm n)
    rcases u3 with ⟨z1, z2⟩ | ⟨z1, s, z2, z3, z4, z5⟩
    · have hna : ∀ n, ¬ sT D f m0 n to ≤ m := fun n y => by
        obtain ⟨s, s1, s2, s3⟩ := (arr_iff hP0 hMi hft hm i5 n).mp y
        exact z2 s s1 s2 n s3
      obtain ⟨Mb, b1, b2, b3, b4⟩ := load_loop (f := f) (to := to) hHa h0 hm h1 hna hP0 FU 0 Ma (by omega) (by unfold FU; omega) OnlyL.rf ⟨v1, fun s hs => by
        rw [if_neg (show ¬ s < 0 by omega)]
        exact (u2 s hs).cong (by omega) (fun _ => Iff.rfl)⟩
      have eb : f_X5_load Ma 146 p 85 (nI m) = some Mb := b1
      rw [eb, bd_t, nI_1]
      refine ih (m + 1) Mb (by omega) (by omega) (by omega) (a2.tr (b2.mono (fun a z => by unfold inPo; omega))) (Or.inl ⟨fun q hq => (b3 q hq).cong (by omega) (fun _ => Iff.rfl), fun s hs => ?_, ?_, ?_, fun n y => hna n (by omega)⟩)
      · have := b4 s hs
        rw [if_pos hs] at this
        exact this
      · rw [(b2.2 146 (by omega)).1]
        exact z1
      · rw [(b2.2 146 (by omega)).1]
        rcases u4 with y | ⟨h, y1, y2, y3⟩
        · exact y.1
        · obtain ⟨s, s1, s2, s3⟩ := (y3 h).mpr (Nat.le_refl _)
          exact absurd s3 (z2 s s1 s2 h)
    · have harr : sT D f m0 (kP D) to = m := by
        have h5 := (arr_iff hP0 hMi hft hm i5 z4).mpr ⟨s, z2, z3, z5⟩
        have h6 := sT_best (f := f) (m0 := m0) hP0 hMi hto z4
        have h7 := i5 (kP D)
        omega
      have hE : ∀ Mx, gI Mx 146 0 = gI Ma 146 0 → gI Mx 146 1 = gI Ma 146 1 → BrE D f m0 to Mx ∧ gI Mx 146 0 ≠ -1 := fun Mx g0 g1 => by
        refine ⟨Or.inr ⟨by omega, by rw [g0, z1, harr], ?_⟩, by rw [g0, z1]; exact ne_m1 (by omega)⟩
        rcases u4 with y | ⟨h, y1, y2, y3⟩
        · exact absurd ⟨s, z2, z3, z5⟩ (y.2 z4)
        · refine ⟨h, by omega, by rw [g1, y2], fun n => ?_⟩
          rw [harr, arr_iff hP0 hMi hft hm i5 n]
          exact y3 n
      have hld := load_any hHa hm hP0 FU 0 Ma (by omega) (by unfold FU; omega) OnlyL.rf
      obtain ⟨Mb, b1, b2⟩ := hld
      have eb : f_X5_load Ma 146 p 85 (nI m) = some Mb := b1
      rw [eb, bd_t, nI_1]
      have hx := hE Mb ((b2.2 146 (by omega)).1 _) ((b2.2 146 (by omega)).1 _)
      exact ih (m + 1) Mb (by omega) (by omega) (by omega) (a2.tr (b2.mono (fun a z => by unfold inPo; omega))) (Or.inr hx)
end PO
