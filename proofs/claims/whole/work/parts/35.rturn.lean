/-! HOW RINGS TURN, the reference -/
def OnlyX (S : Nat → Prop) (M M' : Mem) : Prop := M'.2.2 = M.2.2 ∧ (∀ a k, ¬ (a = 0 ∧ k = 28) → gL M' a k = gL M a k) ∧ ∀ a, ¬ S a → ∀ k, gI M' a k = gI M a k
theorem OnlyX.rf {S : Nat → Prop} {M : Mem} : OnlyX S M M := ⟨rfl, fun _ _ _ => rfl, fun _ _ _ => rfl⟩
theorem OnlyX.tr {S : Nat → Prop} {M M' M'' : Mem} (h : OnlyX S M M') (h' : OnlyX S M' M'') : OnlyX S M M'' := ⟨h'.1.trans h.1, fun a k q => (h'.2.1 a k q).trans (h.2.1 a k q), fun a ha k => (h'.2.2 a ha k).trans (h.2.2 a ha k)⟩
theorem OnlyX.mono {S T : Nat → Prop} {M M' : Mem} (h : OnlyX S M M') (hs : ∀ a, S a → T a) : OnlyX T M M' := ⟨h.1, h.2.1, fun a ha k => h.2.2 a (fun z => ha (hs a z)) k⟩
theorem OnlyX.I {S : Nat → Prop} {M M' : Mem} {a k : Nat} {v : Int32} (h : OnlyX S M M') (ha : S a) : OnlyX S M (sI M' a k v) := ⟨h.1, h.2.1, fun b hb j => by
  rw [gI_sI, if_neg (fun z => hb (by rw [z.1]; exact ha))]
  exact h.2.2 b hb j⟩
theorem OnlyX.x {S : Nat → Prop} {M M' : Mem} {v : Int64} (h : OnlyX S M M') : OnlyX S M (sL M' 0 28 v) := ⟨h.1, fun a k q => by
  rw [gL_sL, if_neg q]
  exact h.2.1 a k q, h.2.2⟩
theorem OnlyX.RR {S : Nat → Prop} {M M' : Mem} (h : OnlyX S M M') (hc : RR M) : RR M' := fun a k => by
  show M'.2.2 a k = _
  rw [h.1]
  exact hc a k
theorem Only.toX {S : Nat → Prop} {M M' : Mem} (h : Only S M M') : OnlyX S M M' := ⟨by rw [h.1], fun a k _ => h.gL a k, h.2⟩
def stepX (x : Int64) : Int64 := (1103515245 * x + 12345) - (1103515245 * x + 12345) / 2147483648 * 2147483648
def drawX (x : Int64) (odds : Int32) : Bool := !(decide (0 ≤ lg_cmp (x / 65536 - x / 65536 / 100 * 100) odds.toInt64))
def seqX (x : Int64) : Nat → Int64
  | 0 => x
  | k + 1 => stepX (seqX x k)
/-- the lines of stuck rings in the first slot -/
def StL (M : Mem) (n : Nat) (sr sf st : Nat → Nat) : Prop := n ≤ 4 ∧ gI M 7 5 = nI n ∧ ∀ i, i < n → sr i ≤ 2 ∧ sf i ≤ 59 ∧ st i ≤ 59 ∧ gI M 12 (3 * i) = nI (sr i) ∧ gI M 12 (3 * i + 1) = nI (sf i) ∧ gI M 12 (3 * i + 2) = nI (st i)
theorem le_nI {a b : Nat} (ha : a < 2 ^ 31) (hb : b < 2 ^ 31) : (nI a ≤ nI b) ↔ a ≤ b := nI_leI ha hb
theorem isStuck_eq {M : Mem} {n r m : Nat} {sr sf st : Nat → Nat} (hR : RR M) (hl : StL M n sr sf st) (hr : r ≤ 2) (hm : m ≤ 59) : f_X11_isStuck M 0 (nI r) (nI m) = some (if (∃ i, i < n ∧ sr i = r ∧ sf i ≤ m ∧ m ≤ st i) ∨ (nI r = gI M 0 25 ∧ ¬ nI m < gI M 0 26) then 1 else 0) := by
  obtain ⟨h1, h2, h3⟩ := hl
  have key : ∀ d k, k ≤ n → n < d + k → (∀ i, i < k → ¬ (sr i = r ∧ sf i ≤ m ∧ m ≤ st i)) → f_X11_isStuck_2 M d 0 (nI r) (nI m) (nI k) = some (if (∃ i, i < n ∧ sr i = r ∧ sf i ≤ m ∧ m ≤ st i) ∨ (nI r = gI M 0 25 ∧ ¬ nI m < gI M 0 26) then 1 else 0) := by
    intro d
    induction d with
    | zero => intro k a b; omega
    | succ d ih =>
      intro k a b hn
      show s_X11_isStuck_2 M (f_X11_isStuck_2 M d) 0 (nI r) (nI m) (nI k) = _
      unfold s_X11_isStuck_2
      rw [oR, gd_t, rr_17 hR, bd_t, aB_l (i := 5) zR_7 (by decide), gd_t]
      show (if gI M 7 5 ≤ nI k then _ else _) = _
      rw [h2]
      by_cases hk : k = n
      · subst hk
        have he : ¬ ∃ i, i < k ∧ sr i = r ∧ sf i ≤ m ∧ m ≤ st i := fun ⟨i, q1, q2⟩ => hn i q1 q2
        rw [if_pos (nI_le (Nat.le_refl _) (by omega))]
        by_cases c1 : nI r = gI M 0 25
        · rw [if_pos c1]
          by_cases c2 : nI m < gI M 0 26
          · rw [if_pos c2, if_neg (fun z => z.elim he (fun y => y.2 c2))]
          · rw [if_neg c2, if_pos (Or.inr ⟨c1, c2⟩)]
        · rw [if_neg c1, if_neg (fun z => z.elim he (fun y => c1 y.1))]
      obtain ⟨q1, q2, q3, q4, q5, q6⟩ := h3 k (by omega)
      have m3 : (3 : Int32) * nI k = nI (3 * k) := by rw [show (3 : Int32) = nI 3 from rfl, pk_mul]
      rw [if_neg (nI_ge (by omega) (by omega)), rr_22 hR, bd_t, m3, aB_t (3 * k) zR_12 rfl (by omega) (by decide), gd_t, nI_clamp (by omega), q4, nI_1, nI_1]
      by_cases c1 : sr k = r
      · rw [if_pos (by rw [c1]), aB_t (3 * k + 1) zR_12 rfl (by omega) (by decide), gd_t, nx_t, nI_clamp (by omega), q5, show nI (3 * k) + 2 = nI (3 * k + 2) from nI_add _ _, aB_t (3 * k + 2) zR_12 rfl (by omega) (by decide), gd_t, nx_t, nI_clamp (by omega), q6, in32 M (nI m) (nI (sf k)) (nI (st k)) rfl rfl, bd_t]
        have hc : (nI (sf k) ≤ nI m ∧ nI m ≤ nI (st k)) ↔ (sf k ≤ m ∧ m ≤ st k) := by rw [le_nI (by omega) (by omega), le_nI (by omega) (by omega)]
        by_cases c2 : sf k ≤ m ∧ m ≤ st k
        · rw [if_pos (hc.mpr c2), if_neg (by decide), if_pos (Or.inl ⟨k, by omega, c1, c2⟩)]
        · rw [if_neg (fun z => c2 (hc.mp z)), if_pos rfl]
          exact ih (k + 1) (by omega) (by omega) (fun i hi z => by
            by_cases e : i = k
            · subst e; exact c2 z.2
            · exact hn i (by omega) z)
      · rw [if_neg (fun z => c1 ((nI_eq (by omega) (by omega)).mp z))]
        exact ih (k + 1) (by omega) (by omega) (fun i hi z => by
          by_cases e : i = k
          · subst e; exact c1 z.1
          · exact hn i (by omega) z)
  exact key FU 0 (by omega) (by unfold FU; omega) (fun i hi => by omega)
theorem isDrawn_eq {M : Mem} : f_X11_isDrawn M 0 = some (sL M 0 28 (stepX (gL M 0 28)), if drawX (stepX (gL M 0 28)) (gI M 0 27) then 1 else 0) := by
  unfold f_X11_isDrawn
  rw [oR, gd_t, nx_t, nx_t, nx_t]
  have e : gL (sL M 0 28 (1103515245 * gL M 0 28 + 12345 - (1103515245 * gL M 0 28 + 12345) / 2147483648 * 2147483648)) 0 28 = stepX (gL M 0 28) := by
    rw [gL_sL, if_pos ⟨rfl, rfl⟩]
    rfl
  rw [e]
  have e2 : gI (sL M 0 28 (1103515245 * gL M 0 28 + 12345 - (1103515245 * gL M 0 28 + 12345) / 2147483648 * 2147483648)) 0 27 = gI M 0 27 := rfl
  rw [e2]
  unfold drawX
  by_cases h : 0 ≤ lg_cmp (stepX (gL M 0 28) / 65536 - stepX (gL M 0 28) / 65536 / 100 * 100) (gI M 0 27).toInt64
  · rw [if_pos h, if_neg (by simp [h])]
    rfl
  · rw [if_neg h, if_pos (by simp [h])]
    rfl
/-- what the reference's turning goes by, in the memory M: the rings of D, its stillness out of lines, a still ring, draws -/
def TuR (M : Mem) (D : MK) (X : Nat → Int64) : Prop := RR M ∧ (gI M 7 1 = nI (kMi D) ∧ gI M 7 2 = nI (kNr D)) ∧ kMi D ≤ 60 ∧ kNr D ≤ 3 ∧ (∀ r, r < kNr D → kRg D r 0 ≤ 60 ∧ gI M 8 (2 * r) = nI (kRg D r 0)) ∧ (∀ k, X (k + 1) = stepX (X k)) ∧
  ∃ (n : Nat) (sr sf st : Nat → Nat), StL M n sr sf st ∧ ∀ r m, r < kNr D → m < kMi D → (kSt D r m = 1 ↔ ((∃ i, i < n ∧ sr i = r ∧ sf i ≤ m ∧ m ≤ st i) ∨ (nI r = gI M 0 25 ∧ ¬ nI m < gI M 0 26)) ∨ (¬ gI M 0 27 = -1 ∧ drawX (X (m * kNr D + r + 1)) (gI M 0 27) = true))
def inT (a : Nat) : Prop := a = 14 ∨ a = 15
theorem TuR.only {M M' : Mem} {D : MK} {X : Nat → Int64} (h : TuR M D X) (hO : OnlyX inT M M') : TuR M' D X := by
  obtain ⟨h1, h2, h3, h4, h5, h6, n, sr, sf, st, ⟨g1, g2, g3⟩, g4⟩ := h
  have e : ∀ a, ¬ inT a → ∀ k, gI M' a k = gI M a k := hO.2.2
  refine ⟨hO.RR h1, ?_, h3, h4, fun r hr => ?_, h6, n, sr, sf, st, ⟨g1, ?_, fun i hi => ?_⟩, fun r m hr hm => ?_⟩
  · rw [e 7 (by unfold inT; omega), e 7 (by unfold inT; omega)]; exact h2
  · rw [e 8 (by unfold inT; omega)]; exact h5 r hr
  · rw [e 7 (by unfold inT; omega)]; exact g2
  · rw [e 12 (by unfold inT; omega), e 12 (by unfold inT; omega), e 12 (by unfold inT; omega)]; exact g3 i hi
  · rw [e 0 (by unfold inT; omega), e 0 (by unfold inT; omega), e 0 (by unfold inT; omega)]; exact g4 r m hr hm
/-- the state of the turning ahead of the ring r in the minute m -/
def TuS (M : Mem) (D : MK) (X : Nat → Int64) (m r : Nat) : Prop := (¬ gI M 0 27 = -1 → gL M 0 28 = X (m * kNr D + r)) ∧ (∀ q, q < kNr D → gI M 15 q = nI (if q < r then (kTr D q (m + 1)).2 else (kTr D q m).2)) ∧ (∀ q, q < kNr D → ∀ j, j < m ∨ (j = m ∧ q < r) → gI M 14 (60 * q + j) = nI (kTn D q j))
