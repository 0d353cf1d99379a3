/-! TOKENS, both readers side by side over one tape B of L bytes -/
def TP (M1 M2 : Mem) (L : Nat) (B : Nat → Int32) : Prop := CR M1 ∧ RR M2 ∧ L ≤ 2000 ∧ gI M1 1 1 = nI L ∧ gI M2 0 6 = nI L ∧ (∀ i, i < L → gI M1 2 i = B i) ∧ ∀ i, i < L → gI M2 5 i = B i
/-- the class's token cells -/
def OnT (S : Nat → Prop) (M M' : Mem) : Prop := M'.2 = M.2 ∧ ∀ a k, ¬ (a = 1 ∧ S k) → gI M' a k = gI M a k
def OnN (S : Nat → Prop) (M M' : Mem) : Prop := M'.2.2 = M.2.2 ∧ (∀ a k, ¬ (a = 0 ∧ S k) → gI M' a k = gI M a k) ∧ ∀ a k, ¬ (a = 0 ∧ k = 11) → gL M' a k = gL M a k
section OT
variable {S T : Nat → Prop} {M M' M'' : Mem}
theorem OnT.rf : OnT S M M := ⟨rfl, fun _ _ _ => rfl⟩
theorem OnT.tr (h : OnT S M M') (h' : OnT S M' M'') : OnT S M M'' := ⟨h'.1.trans h.1, fun a k q => (h'.2 a k q).trans (h.2 a k q)⟩
theorem OnT.mono (h : OnT S M M') (hs : ∀ k, S k → T k) : OnT T M M' := ⟨h.1, fun a k q => h.2 a k (fun z => q ⟨z.1, hs k z.2⟩)⟩
theorem OnT.I {k : Nat} {v : Int32} (h : OnT S M M') (hk : S k) : OnT S M (sI M' 1 k v) := ⟨h.1, fun a j q => by
  rw [gI_sI, if_neg (fun z => q ⟨z.1, by rw [z.2]; exact hk⟩)]
  exact h.2 a j q⟩
theorem OnN.rf : OnN S M M := ⟨rfl, fun _ _ _ => rfl, fun _ _ _ => rfl⟩
theorem OnN.tr (h : OnN S M M') (h' : OnN S M' M'') : OnN S M M'' := ⟨h'.1.trans h.1, fun a k q => (h'.2.1 a k q).trans (h.2.1 a k q), fun a k q => (h'.2.2 a k q).trans (h.2.2 a k q)⟩
theorem OnN.mono (h : OnN S M M') (hs : ∀ k, S k → T k) : OnN T M M' := ⟨h.1, fun a k q => h.2.1 a k (fun z => q ⟨z.1, hs k z.2⟩), h.2.2⟩
theorem OnN.I {k : Nat} {v : Int32} (h : OnN S M M') (hk : S k) : OnN S M (sI M' 0 k v) := ⟨h.1, fun a j q => by
  rw [gI_sI, if_neg (fun z => q ⟨z.1, by rw [z.2]; exact hk⟩)]
  exact h.2.1 a j q, h.2.2⟩
theorem OnN.L {v : Int64} (h : OnN S M M') : OnN S M (sL M' 0 11 v) := ⟨h.1, h.2.1, fun a j q => by
  rw [gL_sL, if_neg q]
  exact h.2.2 a j q⟩
theorem OnT.gL (h : OnT S M M') (a k : Nat) : gL M' a k = gL M a k := by
  show M'.2.1 a k = M.2.1 a k
  rw [h.1]
theorem OnT.gR (h : OnT S M M') (a k : Nat) : gR M' a k = gR M a k := by
  show M'.2.2 a k = M.2.2 a k
  rw [h.1]
theorem OnN.gR (h : OnN S M M') (a k : Nat) : gR M' a k = gR M a k := by
  show M'.2.2 a k = M.2.2 a k
  rw [h.1]
end OT
def tkC (k : Nat) : Prop := 4 ≤ k ∧ k ≤ 7
def tkR (k : Nat) : Prop := 7 ≤ k ∧ k ≤ 10
section TK2
variable {M1 M2 M1' M2' : Mem} {L : Nat} {B : Nat → Int32}
theorem TP.c {S : Nat → Prop} (h : TP M1 M2 L B) (hO : OnT S M1 M1') (h1 : ¬ S 1) : TP M1' M2 L B := by
  obtain ⟨a1, a2, a3, a4, a5, a6, a7⟩ := h
  refine ⟨fun a k q => (hO.gR a k).trans (a1 a k q), a2, a3, ?_, a5, fun i hi => ?_, a7⟩
  · rw [hO.2 _ _ (fun z => h1 z.2)]; exact a4
  · rw [hO.2 _ _ (by omega)]; exact a6 i hi
theorem TP.n {S : Nat → Prop} (h : TP M1 M2 L B) (hO : OnN S M2 M2') (h6 : ¬ S 6) : TP M1 M2' L B := by
  obtain ⟨a1, a2, a3, a4, a5, a6, a7⟩ := h
  refine ⟨a1, fun a k => (hO.gR a k).trans (a2 a k), a3, a4, ?_, a6, fun i hi => ?_⟩
  · rw [hO.2.1 _ _ (fun z => h6 z.2)]; exact a5
  · rw [hO.2.1 _ _ (by omega)]; exact a7 i hi
theorem isByte_eq (h : TP M1 M2 L B) {k : Nat} (hk : k ≤ L) (lo hi : Int32) : f_X11_isByte M2 0 (nI k) lo hi = some (if k < L ∧ lo ≤ B k ∧ B k ≤ hi then 1 else 0) := by
  obtain ⟨a1, a2, a3, a4, a5, a6, a7⟩ := h
  unfold f_X11_isByte
  rw [oR, gd_t, a5]
  by_cases c : k < L
  case' neg =>
    rw [if_pos (nI_le (by omega) (by omega)), if_neg (fun z => c z.1)]
  rw [if_neg (nI_ge c (by omega)), rr_5 a2, bd_t, aB_t k zR_5 rfl (by omega) (by decide), gd_t, nI_clamp (by omega), a7 k c]
  by_cases c1 : B k < lo
  · rw [if_pos c1, if_neg (fun z => Int32.not_le.mpr c1 z.2.1)]
  · rw [if_neg c1]
    by_cases c2 : hi < B k
    · rw [if_pos c2, if_neg (fun z => Int32.not_le.mpr c2 z.2.2)]
    · rw [if_neg c2, if_pos ⟨c, Int32.not_lt.mp c1, Int32.not_lt.mp c2⟩]
def isLt (b : Int32) : Prop := 97 ≤ b ∧ b ≤ 122
def isDg (b : Int32) : Prop := 48 ≤ b ∧ b ≤ 57
theorem letter_t {M : Mem} {b : Int32} (h : isLt b) : f_X6_isLetter M b = some 1 := by
  unfold f_X6_isLetter
  rw [if_neg (Int32.not_lt.mpr h.1), if_neg (Int32.not_lt.mpr h.2)]
theorem letter_f {M : Mem} {b : Int32} (h : ¬ isLt b) : f_X6_isLetter M b = some 0 := by
  unfold f_X6_isLetter
  by_cases c : b < 97
  · rw [if_pos c]
  · rw [if_neg c, if_pos (Int32.not_le.mp (fun z => h ⟨Int32.not_lt.mp c, z⟩))]
theorem digit_t {M : Mem} {b : Int32} (h : isDg b) : f_X6_isDigit M b = some 1 := by
  unfold f_X6_isDigit
  rw [if_neg (Int32.not_lt.mpr h.1), if_neg (Int32.not_lt.mpr h.2)]
theorem digit_f {M : Mem} {b : Int32} (h : ¬ isDg b) : f_X6_isDigit M b = some 0 := by
  unfold f_X6_isDigit
  by_cases c : b < 48
  · rw [if_pos c]
  · rw [if_neg c, if_pos (Int32.not_le.mp (fun z => h ⟨Int32.not_lt.mp c, z⟩))]
theorem rng_c {b lo hi : Int32} {l h : Nat} (hl : lo = nI l) (hh : hi = nI h) (hb : h < 1000) (hlh : l ≤ h) (z : lo ≤ b ∧ b ≤ hi) : ∃ c, l ≤ c ∧ c ≤ h ∧ b = nI c := by
  subst hl
  subst hh
  have z1 := Int32.le_iff_toInt_le.mp z.1
  have z2 := Int32.le_iff_toInt_le.mp z.2
  rw [nI_toInt (by omega)] at z1
  rw [nI_toInt (n := h) (by omega)] at z2
  rcases pk_ix b (n := h + 1) (by omega) with y | y | ⟨j, hj, rfl⟩
  · have := Int32.lt_iff_toInt_lt.mp y
    have e : (0 : Int32).toInt = 0 := rfl
    omega
  · have := Int32.le_iff_toInt_le.mp y
    rw [nI_toInt (by omega)] at this
    omega
  · rw [nI_toInt (by omega)] at z1
    exact ⟨j, by omega, by omega, rfl⟩
/-- a word's letters as a number -/
def hN (B : Nat → Int32) (a : Nat) : Nat → Nat
  | 0 => 0
  | n + 1 => 27 * hN B a n + ((B (a + n)).toNatClampNeg - 96)
def wH (B : Nat → Int32) (a n : Nat) : Int64 := if n ≤ 12 then lN (hN B a n) else -1
theorem wH_s {a n : Nat} (hb : isLt (B (a + n))) (hn : n ≤ 11) : 27 * wH B a n + (B (a + n)).toInt64 - 96 = wH B a (n + 1) := by
  obtain ⟨c, c1, c2, e⟩ := rng_c (l := 97) (h := 122) rfl rfl (by decide) (by decide) hb
  unfold wH
  rw [if_pos (by omega), if_pos (by omega), e, nI_l (by omega), show (27 : Int64) = lN 27 from rfl, lN_mul, lN_add, show (96 : Int64) = lN 96 from rfl, lN_sub (by omega)]
  rw [show hN B a (n + 1) = 27 * hN B a n + ((B (a + n)).toNatClampNeg - 96) from rfl, e, nI_clamp (by omega), show 27 * hN B a n + c - 96 = 27 * hN B a n + (c - 96) by omega]
theorem word_both {a : Nat} : ∀ d n n' k M1 M2, L - k ≤ d → d < n → d < n' → a ≤ k → k ≤ L → TP M1 M2 L B → gI M1 1 5 = nI k → gI M2 0 7 = nI k → gL M2 0 11 = wH B a (k - a) → (∀ i, a ≤ i → i < k → isLt (B i)) → ∃ M1' M2' e, f_X6_takeWord_5 n M1 1 = some M1' ∧ f_X11_next_102 n' M2 0 (nI (k - a)) = some M2' ∧ OnT (· = 5) M1 M1' ∧ OnN (· = 7) M2 M2' ∧ k ≤ e ∧ e ≤ L ∧ (k < L → isLt (B k) → k < e) ∧ gI M1' 1 5 = nI e ∧ gI M2' 0 7 = nI e ∧ gL M2' 0 11 = wH B a (e - a) ∧ ∀ i, a ≤ i → i < e → isLt (B i) := by
  intro d
  induction d with
  | zero =>
    intro n n' k M1 M2 h1 h2 h3 h4 h5 hT g1 g2 g3 g4
    obtain ⟨n, rfl⟩ : ∃ m, n = m + 1 := ⟨n - 1, by omega⟩
    obtain ⟨n', rfl⟩ : ∃ m, n' = m + 1 := ⟨n' - 1, by omega⟩
    have hk : k = L := by omega
    refine ⟨M1, M2, k, ?_, ?_, OnT.rf, OnN.rf, Nat.le_refl _, h5, fun z => by omega, g1, g2, g3, g4⟩
    · show s_X6_takeWord_5 (f_X6_takeWord_5 n) M1 1 = _
      unfold s_X6_takeWord_5
      rw [oC_1, gd_t, hT.2.2.2.1, g1, if_pos (nI_le (by omega) (by have := hT.2.2.1; omega))]
    · show s_X11_next_102 (f_X11_next_102 n') M2 0 (nI (k - a)) = _
      unfold s_X11_next_102
      rw [oR, gd_t, g2, isByte_eq hT h5, bd_t, if_neg (show ¬ (k < L ∧ 97 ≤ B k ∧ B k ≤ 122) from fun z => by omega), if_pos rfl]
  | succ d ih =>
    intro n n' k M1 M2 h1 h2 h3 h4 h5 hT g1 g2 g3 g4
    obtain ⟨n, rfl⟩ : ∃ m, n = m + 1 := ⟨n - 1, by omega⟩
    obtain ⟨n', rfl⟩ : ∃ m, n' = m + 1 := ⟨n' - 1, by omega⟩
    have hL := hT.2.2.1
    show ∃ M1' M2' e, s_X6_takeWord_5 (f_X6_takeWord_5 n) M1 1 = _ ∧ s_X11_next_102 (f_X11_next_102 n') M2 0 (nI (k - a)) = _ ∧ _
    unfold s_X6_takeWord_5 s_X11_next_102
    rw [oC_1, gd_t, hT.2.2.2.1, g1, oR, gd_t, g2, isByte_eq hT h5, bd_t]
    by_cases c : k < L
    case' neg =>
      rw [if_pos (nI_le (by omega) (by omega)), if_neg (show ¬ (k < L ∧ 97 ≤ B k ∧ B k ≤ 122) from fun z => c z.1), if_pos rfl]
      exact ⟨M1, M2, k, rfl, rfl, OnT.rf, OnN.rf, Nat.le_refl _, h5, fun z => absurd z c, g1, g2, g3, g4⟩
    rw [if_neg (nI_ge c (by omega)), cr_1_0 hT.1, bd_t, aB_t k zC_2 rfl (by omega) (by decide), gd_t, nI_clamp (by omega), hT.2.2.2.2.2.1 k c]
    by_cases cl : isLt (B k)
    case' neg =>
      rw [letter_f cl, bd_t, if_pos rfl, if_neg (show ¬ (k < L ∧ 97 ≤ B k ∧ B k ≤ 122) from fun z => cl z.2), if_pos rfl]
      exact ⟨M1, M2, k, rfl, rfl, OnT.rf, OnN.rf, Nat.le_refl _, h5, fun _ z => absurd z cl, g1, g2, g3, g4⟩
    rw [letter_t cl, bd_t, if_neg (show ¬ (1 : Int32) = 0 by decide), if_pos (show k < L ∧ 97 ≤ B k ∧ B k ≤ 122 from ⟨c, cl⟩), if_neg (show ¬ (1 : Int32) = 0 by decide), nx_t, nI_1]
    have hO1 : OnT (· = 5) M1 (sI M1 1 5 (nI (k + 1))) := OnT.rf.I rfl
    have g4' : ∀ i, a ≤ i → i < k + 1 → isLt (B i) := fun i i1 i2 => by
      by_cases e : i = k
      · rw [e]; exact cl
      · exact g4 i i1 (by omega)
    have key : ∀ M2n, OnN (· = 7) M2 M2n → gI M2n 0 7 = nI (k + 1) → gL M2n 0 11 = wH B a (k + 1 - a) → ∃ M1' M2' e, f_X6_takeWord_5 n (sI M1 1 5 (nI (k + 1))) 1 = some M1' ∧ f_X11_next_102 n' M2n 0 (nI (k - a + 1)) = some M2' ∧ OnT (· = 5) M1 M1' ∧ OnN (· = 7) M2 M2' ∧ k ≤ e ∧ e ≤ L ∧ (k < L → isLt (B k) → k < e) ∧ gI M1' 1 5 = nI e ∧ gI M2' 0 7 = nI e ∧ gL M2' 0 11 = wH B a (e - a) ∧ ∀ i, a ≤ i → i < e → isLt (B i) := fun M2n q1 q2 q3 => by
      obtain ⟨M1', M2', e, e1, e2, e3, e4, e5, e6, -, e7, e8, e9, e10⟩ := ih n n' (k + 1) (sI M1 1 5 (nI (k + 1))) M2n (by omega) (by omega) (by omega) (by omega) (by omega) ((hT.c hO1 (by decide)).n q1 (by decide)) (by rw [gI_sI, if_pos ⟨rfl, rfl⟩]) q2 q3 g4'
      rw [show k + 1 - a = k - a + 1 by omega] at e2
      exact ⟨M1', M2', e, e1, e2, hO1.tr e3, q1.tr e4, by omega, e6, fun _ _ => by omega, e7, e8, e9, e10⟩
    have e169 : ∀ M, gI M 0 7 = nI k → f_X11_next_169 (f_X11_next_102 n') M 0 (nI (k - a)) = f_X11_next_102 n' (sI M 0 7 (nI (k + 1))) 0 (nI (k - a + 1)) := fun M hM => by
      unfold f_X11_next_169
      rw [oR, gd_t, nx_t, hM, nI_1, nI_1]
    by_cases c11 : k - a ≤ 11
    · rw [if_pos (show nI (k - a) ≤ 11 from nI_le (b := 11) c11 (by decide)), rr_5 hT.2.1, bd_t, aB_t k zR_5 rfl (by omega) (by decide), gd_t, nx_t, hT.2.2.2.2.2.2 k c]
      unfold f_X11_next_153
      have hw := wH_s (B := B) (a := a) (n := k - a) (by rw [show a + (k - a) = k by omega]; exact cl) c11
      rw [show a + (k - a) = k by omega] at hw
      rw [oR, gd_t, nx_t, g3, hw, if_pos (show nI (k - a) ≤ 11 from nI_le (b := 11) c11 (by decide)), e169 (sL M2 0 11 (wH B a (k - a + 1))) g2]
      exact key _ (OnN.rf.L.I rfl) (by rw [gI_sI, if_pos ⟨rfl, rfl⟩]) (by
        show gL (sL M2 0 11 _) 0 11 = _
        rw [gL_sL, if_pos ⟨rfl, rfl⟩, show k + 1 - a = k - a + 1 by omega])
    · rw [if_neg (show ¬ nI (k - a) ≤ 11 from nI_ge (a := 11) (by omega) (by omega))]
      unfold f_X11_next_153
      rw [oR, gd_t, nx_t, if_neg (show ¬ nI (k - a) ≤ 11 from nI_ge (a := 11) (by omega) (by omega)), gd_t, nx_t, e169 (sL (sL M2 0 11 (-1)) 0 11 (-1)) g2]
      exact key _ (OnN.rf.L.L.I rfl) (by rw [gI_sI, if_pos ⟨rfl, rfl⟩]) (by
        show gL (sL (sL M2 0 11 _) 0 11 _) 0 11 = _
        rw [gL_sL, if_pos ⟨rfl, rfl⟩]
        unfold wH
        rw [if_neg (by omega)])
/-- two values of a number: the same, or both above every bound -/
def NvR (v w : Int32) : Prop := ∃ x y : Nat, v = nI x ∧ w = nI y ∧ ((x = y ∧ x ≤ 100000) ∨ (x = 100000 ∧ 100000 < y ∧ y ≤ 2000000))
theorem num_both {a : Nat} : ∀ d n n' k M1 M2, L - k ≤ d → d < n → d < n' → a ≤ k → k ≤ L → TP M1 M2 L B → gI M1 1 5 = nI k → gI M2 0 7 = nI k → NvR (gI M1 1 7) (gI M2 0 10) → ∃ M1' M2' e, f_X6_takeNumber_10 n M1 1 = some M1' ∧ f_X11_next_208 n' M2 0 = some M2' ∧ OnT (fun j => j = 5 ∨ j = 7) M1 M1' ∧ OnN (fun j => j = 7 ∨ j = 10) M2 M2' ∧ k ≤ e ∧ e ≤ L ∧ (k < L → isDg (B k) → k < e) ∧ gI M1' 1 5 = nI e ∧ gI M2' 0 7 = nI e ∧ NvR (gI M1' 1 7) (gI M2' 0 10) := by
  intro d
  induction d with
  | zero =>
    intro n n' k M1 M2 h1 h2 h3 h4 h5 hT g1 g2 g3
    obtain ⟨n, rfl⟩ : ∃ m, n = m + 1 := ⟨n - 1, by omega⟩
    obtain ⟨n', rfl⟩ : ∃ m, n' = m + 1 := ⟨n' - 1, by omega⟩
    have hk : k = L := by omega
    refine ⟨M1, M2, k, ?_, ?_, OnT.rf, OnN.rf, Nat.le_refl _, h5, fun z => by omega, g1, g2, g3⟩
    · show s_X6_takeNumber_10 (f_X6_takeNumber_10 n) M1 1 = _
      unfold s_X6_takeNumber_10
      rw [oC_1, gd_t, hT.2.2.2.1, g1, if_pos (nI_le (by omega) (by have := hT.2.2.1; omega))]
    · show s_X11_next_208 (f_X11_next_208 n') M2 0 = _
      unfold s_X11_next_208
      rw [oR, gd_t, g2, isByte_eq hT h5, bd_t, if_neg (show ¬ (k < L ∧ 48 ≤ B k ∧ B k ≤ 57) from fun z => by omega), if_pos rfl]
  | succ d ih =>
    intro n n' k M1 M2 h1 h2 h3 h4 h5 hT g1 g2 g3
    obtain ⟨n, rfl⟩ : ∃ m, n = m + 1 := ⟨n - 1, by omega⟩
    obtain ⟨n', rfl⟩ : ∃ m, n' = m + 1 := ⟨n' - 1, by omega⟩
    have hL := hT.2.2.1
    show ∃ M1' M2' e, s_X6_takeNumber_10 (f_X6_takeNumber_10 n) M1 1 = _ ∧ s_X11_next_208 (f_X11_next_208 n') M2 0 = _ ∧ _
    unfold s_X6_takeNumber_10 s_X11_next_208
    rw [oC_1, gd_t, hT.2.2.2.1, g1, oR, gd_t, g2, isByte_eq hT h5, bd_t]
    by_cases c : k < L
    case' neg =>
      rw [if_pos (nI_le (by omega) (by omega)), if_neg (show ¬ (k < L ∧ 48 ≤ B k ∧ B k ≤ 57) from fun z => c z.1), if_pos rfl]
      exact ⟨M1, M2, k, rfl, rfl, OnT.rf, OnN.rf, Nat.le_refl _, h5, fun z => absurd z c, g1, g2, g3⟩
    rw [if_neg (nI_ge c (by omega)), cr_1_0 hT.1, bd_t, aB_t k zC_2 rfl (by omega) (by decide), gd_t, nI_clamp (by omega), hT.2.2.2.2.2.1 k c]
    by_cases cl : isDg (B k)
    case' neg =>
      rw [digit_f cl, bd_t, if_pos rfl, if_neg (show ¬ (k < L ∧ 48 ≤ B k ∧ B k ≤ 57) from fun z => cl z.2), if_pos rfl]
      exact ⟨M1, M2, k, rfl, rfl, OnT.rf, OnN.rf, Nat.le_refl _, h5, fun _ z => absurd z cl, g1, g2, g3⟩
    obtain ⟨b, b1, b2, eb⟩ := rng_c (l := 48) (h := 57) rfl rfl (by decide) (by decide) cl
    obtain ⟨x, y, ex, ey, hxy⟩ := g3
    have hx : x ≤ 100000 := by omega
    have ev : 10 * gI M1 1 7 + B k - 48 = nI (10 * x + b - 48) := by
      rw [ex, eb, show (10 : Int32) = nI 10 from rfl, pk_mul, nI_add, show (48 : Int32) = nI 48 from rfl, pk_sub (by omega)]
    have em : ∃ x', x' ≤ 100000 ∧ f_X20_min M1 100000 (10 * gI M1 1 7 + B k - 48) = some (nI x') ∧ ((10 * x + b - 48 < 100000 ∧ x' = 10 * x + b - 48) ∨ (100000 ≤ 10 * x + b - 48 ∧ x' = 100000)) := by
      rw [ev]
      unfold f_X20_min
      by_cases q : 10 * x + b - 48 < 100000
      · rw [if_pos (show nI (10 * x + b - 48) < (100000 : Int32) from nI_lt (b := 100000) q (by decide))]
        exact ⟨_, by omega, rfl, Or.inl ⟨q, rfl⟩⟩
      · rw [if_neg (show ¬ nI (10 * x + b - 48) < (100000 : Int32) from nI_nlt (b := 100000) (by omega) (by omega))]
        exact ⟨100000, Nat.le_refl _, rfl, Or.inr ⟨by omega, rfl⟩⟩
    obtain ⟨x', x1, x2, x3⟩ := em
    rw [digit_t cl, bd_t, if_neg (show ¬ (1 : Int32) = 0 by decide), if_pos (show k < L ∧ 48 ≤ B k ∧ B k ≤ 57 from ⟨c, cl⟩), if_neg (show ¬ (1 : Int32) = 0 by decide), nx_t, x2, bd_t, nx_t, nx_t, gI_sI, if_neg (by omega), g1, nI_1]
    have hO1 : OnT (fun j => j = 5 ∨ j = 7) M1 (sI (sI M1 1 7 (nI x')) 1 5 (nI (k + 1))) := (OnT.rf.I (Or.inr rfl)).I (Or.inl rfl)
    have key : ∀ M2n y', OnN (fun j => j = 7 ∨ j = 10) M2 M2n → gI M2n 0 7 = nI (k + 1) → gI M2n 0 10 = nI y' → ((x' = y' ∧ x' ≤ 100000) ∨ (x' = 100000 ∧ 100000 < y' ∧ y' ≤ 2000000)) → ∃ M1' M2' e, f_X6_takeNumber_10 n (sI (sI M1 1 7 (nI x')) 1 5 (nI (k + 1))) 1 = some M1' ∧ f_X11_next_208 n' M2n 0 = some M2' ∧ OnT (fun j => j = 5 ∨ j = 7) M1 M1' ∧ OnN (fun j => j = 7 ∨ j = 10) M2 M2' ∧ k ≤ e ∧ e ≤ L ∧ (k < L → isDg (B k) → k < e) ∧ gI M1' 1 5 = nI e ∧ gI M2' 0 7 = nI e ∧ NvR (gI M1' 1 7) (gI M2' 0 10) := fun M2n y' q1 q2 q3 q4 => by
      obtain ⟨M1', M2', e, e1, e2, e3, e4, e5, e6, -, e7, e8, e9⟩ := ih n n' (k + 1) (sI (sI M1 1 7 (nI x')) 1 5 (nI (k + 1))) M2n (by omega) (by omega) (by omega) (by omega) (by omega) ((hT.c hO1 (by decide)).n q1 (by decide)) (by rw [gI_sI, if_pos ⟨rfl, rfl⟩]) q2 ⟨x', y', by rw [gI_sI, if_neg (by omega), gI_sI, if_pos ⟨rfl, rfl⟩], q3, q4⟩
      exact ⟨M1', M2', e, e1, e2, hO1.tr e3, q1.tr e4, by omega, e6, fun _ _ => by omega, e7, e8, e9⟩
    have e258 : ∀ v, f_X11_next_258 (f_X11_next_208 n') M2 0 v 0 = f_X11_next_208 n' (sI (sI M2 0 10 v) 0 7 (nI (k + 1))) 0 := fun v => by
      unfold f_X11_next_258
      rw [oR, gd_t, nx_t, gd_t, nx_t, gI_sI, if_neg (by omega), g2, nI_1]
    by_cases c11 : y ≤ 100000
    · have ey2 : 10 * gI M2 0 10 + B k - 48 = nI (10 * y + b - 48) := by
        rw [ey, eb, show (10 : Int32) = nI 10 from rfl, pk_mul, nI_add, show (48 : Int32) = nI 48 from rfl, pk_sub (by omega)]
      rw [ey, if_pos (show nI y ≤ 100000 from nI_le (b := 100000) c11 (by decide)), rr_5 hT.2.1, bd_t, aB_t k zR_5 rfl (by omega) (by decide), gd_t, nx_t, hT.2.2.2.2.2.2 k c, ← ey, ey2, e258]
      exact key _ (10 * y + b - 48) ((OnN.rf.I (Or.inr rfl)).I (Or.inl rfl)) (by rw [gI_sI, if_pos ⟨rfl, rfl⟩]) (by rw [gI_sI, if_neg (by omega), gI_sI, if_pos ⟨rfl, rfl⟩]) (by omega)
    · rw [ey, if_neg (show ¬ nI y ≤ 100000 from nI_ge (a := 100000) (by omega) (by omega)), e258]
      exact key _ 1000000 ((OnN.rf.I (Or.inr rfl)).I (Or.inl rfl)) (by rw [gI_sI, if_pos ⟨rfl, rfl⟩]) (by rw [gI_sI, if_neg (by omega), gI_sI, if_pos ⟨rfl, rfl⟩]; rfl) (by omega)
/-- the token that both have: from a to e, of the sort t -/
def TokR (B : Nat → Int32) (L : Nat) (M1 M2 : Mem) (a e t : Nat) : Prop := a ≤ e ∧ e ≤ L ∧ gI M1 1 4 = nI a ∧ gI M2 0 9 = nI a ∧ gI M1 1 5 = nI e ∧ gI M2 0 7 = nI e ∧ gI M1 1 6 = nI t ∧ gI M2 0 8 = nI t ∧ t ≤ 4 ∧ (t ≠ 0 → a < e) ∧ (t = 1 → (∀ i, a ≤ i → i < e → isLt (B i)) ∧ gL M2 0 11 = wH B a (e - a)) ∧ (t = 2 → NvR (gI M1 1 7) (gI M2 0 10))
theorem tok_both {k : Nat} (hT : TP M1 M2 L B) (hk : k ≤ L) (hb : k < L → B k ≠ 32 ∧ B k ≠ 10) (g1 : gI M1 1 4 = nI k) (g2 : gI M2 0 7 = nI k) (k0 : Mem → Nat → Option Mem) : ∃ M1' M2' e t, f_X6_next_60 M1 1 = some M1' ∧ s_X11_next_0 k0 M2 0 = some M2' ∧ OnT tkC M1 M1' ∧ OnN tkR M2 M2' ∧ TokR B L M1' M2' k e t := by
  have hL := hT.2.2.1
  have e32 : ∀ v, ¬ (k < L ∧ v ≤ B k ∧ B k ≤ v) ∨ B k = v := fun v => by
    by_cases q : k < L ∧ v ≤ B k ∧ B k ≤ v
    · exact Or.inr (Int32.le_antisymm q.2.2 q.2.1)
    · exact Or.inl q
  have n32 : ¬ (k < L ∧ 32 ≤ B k ∧ B k ≤ 32) := fun z => (hb z.1).1 (Int32.le_antisymm z.2.2 z.2.1)
  have n10 : ¬ (k < L ∧ 10 ≤ B k ∧ B k ≤ 10) := fun z => (hb z.1).2 (Int32.le_antisymm z.2.2 z.2.1)
  have hO6 : OnN tkR M2 (sL (sI (sI M2 0 9 (nI k)) 0 10 0) 0 11 0) := ((OnN.rf.I (by unfold tkR; omega)).I (by unfold tkR; omega)).L
  have hT6 : TP M1 (sL (sI (sI M2 0 9 (nI k)) 0 10 0) 0 11 0) L B := hT.n hO6 (by unfold tkR; omega)
  have q7 : gI (sL (sI (sI M2 0 9 (nI k)) 0 10 0) 0 11 0) 0 7 = nI k := by
    show gI (sI (sI M2 0 9 (nI k)) 0 10 0) 0 7 = _
    rw [gI_sI, if_neg (by omega), gI_sI, if_neg (by omega), g2]
  have q9 : gI (sL (sI (sI M2 0 9 (nI k)) 0 10 0) 0 11 0) 0 9 = nI k := by
    show gI (sI (sI M2 0 9 (nI k)) 0 10 0) 0 9 = _
    rw [gI_sI, if_neg (by omega), gI_sI, if_pos ⟨rfl, rfl⟩]
  have q10 : gI (sL (sI (sI M2 0 9 (nI k)) 0 10 0) 0 11 0) 0 10 = nI 0 := by
    show gI (sI (sI M2 0 9 (nI k)) 0 10 0) 0 10 = _
    rw [gI_sI, if_pos ⟨rfl, rfl⟩]
    rfl
  have q11 : gL (sL (sI (sI M2 0 9 (nI k)) 0 10 0) 0 11 0) 0 11 = wH B k 0 := by
    rw [gL_sL, if_pos ⟨rfl, rfl⟩]
    rfl
  have hO1 : OnT tkC M1 (sI M1 1 5 (nI k)) := OnT.rf.I (by unfold tkC; omega)
  have hT1 := hT6.c hO1 (by unfold tkC; omega)
  have p4 : gI (sI M1 1 5 (nI k)) 1 4 = nI k := by rw [gI_sI, if_neg (by omega), g1]
  have p5 : gI (sI M1 1 5 (nI k)) 1 5 = nI k := by rw [gI_sI, if_pos ⟨rfl, rfl⟩]
  unfold f_X6_next_60 s_X11_next_0
  rw [oC_1, gd_t, nx_t, g1, p4, oR, gd_t, g2, isByte_eq hT hk, bd_t, if_neg n32, if_pos rfl, isByte_eq hT hk, bd_t, if_neg n10, if_pos rfl, nx_t, nx_t, nx_t, nx_t, q7]
  rw [hT1.2.2.2.1, hT6.2.2.2.2.1]
  generalize hA : sI M1 1 5 (nI k) = A at *
  generalize hZ : sL (sI (sI M2 0 9 (nI k)) 0 10 0) 0 11 0 = Z at *
  by_cases c : k < L
  case' neg =>
    have ek : k = L := by omega
    rw [if_neg (nI_nlt (by omega) (by omega)), if_pos (by rw [ek]), nx_t]
    refine ⟨_, _, k, 0, rfl, rfl, hO1.I (by unfold tkC; omega), hO6.I (by unfold tkR; omega), Nat.le_refl _, hk, ?_, ?_, ?_, ?_, ?_, ?_, by omega, fun z => absurd rfl z, fun z => (by cases z), fun z => (by cases z)⟩
    · rw [gI_sI, if_neg (by omega), p4]
    · rw [gI_sI, if_neg (by omega), q9]
    · rw [gI_sI, if_neg (by omega), p5]
    · rw [gI_sI, if_neg (by omega), q7]
    · rw [gI_sI, if_pos ⟨rfl, rfl⟩]; rfl
    · rw [gI_sI, if_pos ⟨rfl, rfl⟩]; rfl
  have nek : ¬ nI k = nI L := fun z => by
    have := (nI_eq (by omega) (by omega)).mp z
    omega
  rw [if_neg nek, if_pos (nI_lt c (by omega)), cr_1_0 hT1.1, bd_t, aB_t k zC_2 rfl (by omega) (by decide), gd_t, nx_t, nI_clamp (by omega), hT1.2.2.2.2.2.1 k c, isByte_eq hT6 hk, bd_t]
  by_cases cl : isLt (B k)
  · have hOa : OnT tkC M1 (sI A 1 6 1) := hO1.I (by unfold tkC; omega)
    have hOz : OnN tkR M2 (sI Z 0 8 1) := hO6.I (by unfold tkR; omega)
    obtain ⟨M1', M2', e, e1, e2, e3, e4, e5, e6, e0, e7, e8, e9, e10⟩ := word_both (a := k) L FU FU k (sI A 1 6 1) (sI Z 0 8 1) (by omega) (by unfold FU; omega) (by unfold FU; omega) (Nat.le_refl _) hk ((hT.c hOa (by unfold tkC; omega)).n hOz (by unfold tkR; omega)) (by rw [gI_sI, if_neg (by omega), p5]) (by rw [gI_sI, if_neg (by omega), q7]) (by rw [Nat.sub_self]; exact q11) (fun i i1 i2 => by omega)
    have hlt := e0 c cl
    rw [Nat.sub_self] at e2
    have e2' : f_X11_next_102 FU (sI Z 0 8 1) 0 0 = some M2' := e2
    have e1' : f_X6_takeWord A 1 = some M1' := by
      unfold f_X6_takeWord
      rw [oC_1, gd_t, nx_t]
      exact e1
    rw [letter_t cl, bd_t, if_neg (show ¬ (1 : Int32) = 0 by decide), e1', bd_t, if_pos (show k < L ∧ 97 ≤ B k ∧ B k ≤ 122 from ⟨c, cl⟩), if_neg (show ¬ (1 : Int32) = 0 by decide), nx_t, e2']
    refine ⟨M1', M2', e, 1, rfl, rfl, hOa.tr (e3.mono (fun j z => by unfold tkC; omega)), hOz.tr (e4.mono (fun j z => by unfold tkR; omega)), e5, e6, ?_, ?_, e7, e8, ?_, ?_, by omega, fun _ => hlt, fun _ => ⟨e10, e9⟩, fun z => (by cases z)⟩
    · rw [e3.2 _ _ (by omega), gI_sI, if_neg (by omega), p4]
    · rw [e4.2.1 _ _ (by omega), gI_sI, if_neg (by omega), q9]
    · rw [e3.2 _ _ (by omega), gI_sI, if_pos ⟨rfl, rfl⟩]; rfl
    · rw [e4.2.1 _ _ (by omega), gI_sI, if_pos ⟨rfl, rfl⟩]; rfl
  rw [letter_f cl, bd_t, if_pos rfl, nx_t, if_neg (show ¬ (k < L ∧ 97 ≤ B k ∧ B k ≤ 122) from fun z => cl z.2), if_pos rfl, isByte_eq hT6 hk, bd_t]
  by_cases cd : isDg (B k)
  · have hOa : OnT tkC M1 (sI (sI A 1 6 2) 1 7 0) := (hO1.I (by unfold tkC; omega)).I (by unfold tkC; omega)
    have hOz : OnN tkR M2 (sI Z 0 8 2) := hO6.I (by unfold tkR; omega)
    obtain ⟨M1', M2', e, e1, e2, e3, e4, e5, e6, e0, e7, e8, e9⟩ := num_both (a := k) L FU FU k (sI (sI A 1 6 2) 1 7 0) (sI Z 0 8 2) (by omega) (by unfold FU; omega) (by unfold FU; omega) (Nat.le_refl _) hk ((hT.c hOa (by unfold tkC; omega)).n hOz (by unfold tkR; omega)) (by rw [gI_sI, if_neg (by omega), gI_sI, if_neg (by omega), p5]) (by rw [gI_sI, if_neg (by omega), q7]) ⟨0, 0, by rw [gI_sI, if_pos ⟨rfl, rfl⟩]; rfl, by rw [gI_sI, if_neg (by omega), q10], Or.inl ⟨rfl, by omega⟩⟩
    have hlt := e0 c cd
    have e1' : f_X6_takeNumber A 1 = some M1' := by
      unfold f_X6_takeNumber
      rw [oC_1, gd_t, nx_t, nx_t]
      exact e1
    rw [digit_t cd, bd_t, if_neg (show ¬ (1 : Int32) = 0 by decide), e1', bd_t, if_pos (show k < L ∧ 48 ≤ B k ∧ B k ≤ 57 from ⟨c, cd⟩), if_neg (show ¬ (1 : Int32) = 0 by decide), nx_t, e2]
    refine ⟨M1', M2', e, 2, rfl, rfl, hOa.tr (e3.mono (fun j z => by unfold tkC; omega)), hOz.tr (e4.mono (fun j z => by unfold tkR; omega)), e5, e6, ?_, ?_, e7, e8, ?_, ?_, by omega, fun _ => hlt, fun z => (by cases z), fun _ => e9⟩
    · rw [e3.2 _ _ (by omega), gI_sI, if_neg (by omega), gI_sI, if_neg (by omega), p4]
    · rw [e4.2.1 _ _ (by omega), gI_sI, if_neg (by omega), q9]
    · rw [e3.2 _ _ (by omega), gI_sI, if_neg (by omega), gI_sI, if_pos ⟨rfl, rfl⟩]; rfl
    · rw [e4.2.1 _ _ (by omega), gI_sI, if_pos ⟨rfl, rfl⟩]; rfl
  rw [digit_f cd, bd_t, if_pos rfl, nx_t, if_neg (show ¬ (k < L ∧ 48 ≤ B k ∧ B k ≤ 57) from fun z => cd z.2), if_pos rfl, rr_5 hT6.2.1, bd_t, aB_t k zR_5 rfl (by omega) (by decide), gd_t, nx_t, hT6.2.2.2.2.2.2 k c]
  have fin : ∀ t v, (t = 3 ∨ t = 4) → v = nI t → ∃ M1' M2' e t, f_X6_next_151 A 1 v 1 = some M1' ∧ f_X11_next_294 Z 0 v 0 = some M2' ∧ OnT tkC M1 M1' ∧ OnN tkR M2 M2' ∧ TokR B L M1' M2' k e t := fun t v ht hv => by
    unfold f_X6_next_151 f_X11_next_294
    rw [oC_1, gd_t, nx_t, gd_t, nx_t, oR, gd_t, nx_t, gd_t, nx_t]
    refine ⟨_, _, k + 1, t, rfl, rfl, (hO1.I (by unfold tkC; omega)).I (by unfold tkC; omega), (hO6.I (by unfold tkR; omega)).I (by unfold tkR; omega), by omega, by omega, ?_, ?_, ?_, ?_, ?_, ?_, by omega, fun _ => by omega, fun z => by omega, fun z => by omega⟩
    · rw [gI_sI, if_neg (by omega), gI_sI, if_neg (by omega), p4]
    · rw [gI_sI, if_neg (by omega), gI_sI, if_neg (by omega), q9]
    · rw [gI_sI, if_pos ⟨rfl, rfl⟩, gI_sI, if_neg (by omega), p5, nI_1]
    · rw [gI_sI, if_pos ⟨rfl, rfl⟩, gI_sI, if_neg (by omega), q7, nI_1]
    · rw [gI_sI, if_neg (by omega), gI_sI, if_pos ⟨rfl, rfl⟩, hv]
    · rw [gI_sI, if_neg (by omega), gI_sI, if_pos ⟨rfl, rfl⟩, hv]
  by_cases c59 : B k = 59
  · rw [if_pos c59, if_pos c59]
    exact fin 3 3 (Or.inl rfl) rfl
  · rw [if_neg c59, if_neg c59]
    exact fin 4 4 (Or.inr rfl) rfl
theorem next_loop : ∀ d n n' k M1 M2, L - k ≤ d → d < n → d < n' → k ≤ L → TP M1 M2 L B → gI M1 1 4 = nI k → gI M2 0 7 = nI k → ∃ M1' M2' a e t, f_X6_next_8 n M1 1 = some M1' ∧ f_X11_next_0 n' M2 0 = some M2' ∧ OnT tkC M1 M1' ∧ OnN tkR M2 M2' ∧ k ≤ a ∧ TokR B L M1' M2' a e t := by
  intro d
  induction d with
  | zero =>
    intro n n' k M1 M2 h1 h2 h3 h4 hT g1 g2
    obtain ⟨n, rfl⟩ : ∃ m, n = m + 1 := ⟨n - 1, by omega⟩
    obtain ⟨n', rfl⟩ : ∃ m, n' = m + 1 := ⟨n' - 1, by omega⟩
    have hL := hT.2.2.1
    obtain ⟨M1', M2', e, t, e1, e2, e3, e4, e5⟩ := tok_both hT h4 (fun z => by omega) g1 g2 (f_X11_next_0 n')
    refine ⟨M1', M2', k, e, t, ?_, e2, e3, e4, Nat.le_refl _, e5⟩
    show s_X6_next_8 (f_X6_next_8 n) M1 1 = _
    unfold s_X6_next_8
    rw [oC_1, gd_t, hT.2.2.2.1, g1, if_pos (nI_le (by omega) (by omega)), e1]
  | succ d ih =>
    intro n n' k M1 M2 h1 h2 h3 h4 hT g1 g2
    obtain ⟨n, rfl⟩ : ∃ m, n = m + 1 := ⟨n - 1, by omega⟩
    obtain ⟨n', rfl⟩ : ∃ m, n' = m + 1 := ⟨n' - 1, by omega⟩
    have hL := hT.2.2.1
    by_cases hb : k < L ∧ (B k = 32 ∨ B k = 10)
    · obtain ⟨c, hb⟩ := hb
      have hO1 : OnT tkC M1 (sI M1 1 4 (nI (k + 1))) := OnT.rf.I (by unfold tkC; omega)
      have hO2 : OnN tkR M2 (sI M2 0 7 (nI (k + 1))) := OnN.rf.I (by unfold tkR; omega)
      obtain ⟨M1', M2', a, e, t, e1, e2, e3, e4, e5, e6⟩ := ih n n' (k + 1) (sI M1 1 4 (nI (k + 1))) (sI M2 0 7 (nI (k + 1))) (by omega) (by omega) (by omega) (by omega) ((hT.c hO1 (by unfold tkC; omega)).n hO2 (by unfold tkR; omega)) (by rw [gI_sI, if_pos ⟨rfl, rfl⟩]) (by rw [gI_sI, if_pos ⟨rfl, rfl⟩])
      refine ⟨M1', M2', a, e, t, ?_, ?_, hO1.tr e3, hO2.tr e4, by omega, e6⟩
      · have e47 : f_X6_next_47 (f_X6_next_8 n) M1 1 = some M1' := by
          unfold f_X6_next_47
          rw [oC_1, gd_t, nx_t, g1, nI_1, e1]
        show s_X6_next_8 (f_X6_next_8 n) M1 1 = _
        unfold s_X6_next_8
        rw [oC_1, gd_t, hT.2.2.2.1, g1, if_neg (nI_ge c (by omega)), cr_1_0 hT.1, bd_t, aB_t k zC_2 rfl (by omega) (by decide), gd_t, nI_clamp (by omega), hT.2.2.2.2.2.1 k c, e47]
        rcases hb with z | z
        · rw [if_pos z]
        · rw [z, if_neg (by decide), if_pos rfl]
      · have e30 : f_X11_next_30 (f_X11_next_0 n') M2 0 = some M2' := by
          unfold f_X11_next_30
          rw [oR, gd_t, nx_t, g2, nI_1, e2]
        show s_X11_next_0 (f_X11_next_0 n') M2 0 = _
        unfold s_X11_next_0
        rw [oR, gd_t, g2, isByte_eq hT h4, bd_t, isByte_eq hT h4, bd_t, e30]
        rcases hb with z | z
        · rw [if_pos (show k < L ∧ 32 ≤ B k ∧ B k ≤ 32 by rw [z]; exact ⟨c, by decide, by decide⟩), if_neg (show ¬ (1 : Int32) = 0 by decide)]
        · rw [if_neg (show ¬ (k < L ∧ 32 ≤ B k ∧ B k ≤ 32) by rw [z]; exact fun y => absurd y.2.1 (by decide)), if_pos rfl, if_pos (show k < L ∧ 10 ≤ B k ∧ B k ≤ 10 by rw [z]; exact ⟨c, by decide, by decide⟩), if_neg (show ¬ (1 : Int32) = 0 by decide)]
    · have hb' : k < L → B k ≠ 32 ∧ B k ≠ 10 := fun c => ⟨fun z => hb ⟨c, Or.inl z⟩, fun z => hb ⟨c, Or.inr z⟩⟩
      obtain ⟨M1', M2', e, t, e1, e2, e3, e4, e5⟩ := tok_both hT h4 hb' g1 g2 (f_X11_next_0 n')
      refine ⟨M1', M2', k, e, t, ?_, e2, e3, e4, Nat.le_refl _, e5⟩
      show s_X6_next_8 (f_X6_next_8 n) M1 1 = _
      unfold s_X6_next_8
      rw [oC_1, gd_t, hT.2.2.2.1, g1, e1]
      by_cases c : k < L
      · rw [if_neg (nI_ge c (by omega)), cr_1_0 hT.1, bd_t, aB_t k zC_2 rfl (by omega) (by decide), gd_t, nI_clamp (by omega), hT.2.2.2.2.2.1 k c, if_neg (hb' c).1, if_neg (hb' c).2]
      · rw [if_pos (nI_le (by omega) (by omega))]
theorem next_both {u : Nat} (hT : TP M1 M2 L B) (hu : u ≤ L) (g1 : gI M1 1 5 = nI u) (g2 : gI M2 0 7 = nI u) : ∃ M1' M2' a e t, f_X6_next M1 1 = some M1' ∧ f_X11_next M2 0 = some M2' ∧ OnT tkC M1 M1' ∧ OnN tkR M2 M2' ∧ u ≤ a ∧ TokR B L M1' M2' a e t := by
  have hL := hT.2.2.1
  have hO1 : OnT tkC M1 (sI M1 1 4 (nI u)) := OnT.rf.I (by unfold tkC; omega)
  obtain ⟨M1', M2', a, e, t, e1, e2, e3, e4, e5, e6⟩ := next_loop L FU FU u (sI M1 1 4 (nI u)) M2 (by omega) (by unfold FU; omega) (by unfold FU; omega) hu (hT.c hO1 (by unfold tkC; omega)) (by rw [gI_sI, if_pos ⟨rfl, rfl⟩]) g2
  refine ⟨M1', M2', a, e, t, ?_, e2, hO1.tr e3, e4, e5, e6⟩
  unfold f_X6_next
  rw [oC_1, gd_t, nx_t, g1]
  exact e1
end TK2
