/-! LINES: steps that both readers take, with what is known where all is well (P) -/
section SPx
variable {L : Nat} {B : Nat → Int32} {M1 M2 N1 N2 : Mem}
def SP (L : Nat) (B : Nat → Int32) (n : Nat) (P : Prop) (M1 M2 : Mem) : Prop := ((∃ a e t, n ≤ a ∧ PG L B M1 M2 a e t) ∧ P) ∨ PB L B M1 M2
theorem word_sp {n i : Nat} {P : Prop} (hi : i < 26) (h : SP L B n P M1 M2) : ∃ M1' M2', f_X6_word M1 1 i = some M1' ∧ f_X11_asks M2 0 (wT i) = some M2' ∧ OnT kC M1 M1' ∧ OnN kN M2 M2' ∧ SP L B n P M1' M2' := by
  rcases h with ⟨hG, hP⟩ | hB
  · obtain ⟨M1', M2', a1, a2, a3, a4, a5⟩ := word_st hi (Or.inl hG)
    exact ⟨M1', M2', a1, a2, a3, a4, a5.elim (fun z => Or.inl ⟨z, hP⟩) Or.inr⟩
  · obtain ⟨b, b1⟩ := hB.isWord hi
    obtain ⟨M1', r1, r2, r3⟩ := hB.next
    refine ⟨M1', M2, ?_, ?_, r2, OnN.rf, Or.inr r3⟩
    · unfold f_X6_word
      rw [oC_1, gd_t, b1, bd_t]
      cases b with
      | true => rw [bI_t, if_neg (show ¬ (1 : Int32) = 0 by decide), r1, bd_t]
      | false => rw [bI_f, if_pos rfl, hB.refuse, bd_t, r1, bd_t]
    · unfold f_X11_asks f_X11_takes
      rw [oR, gd_t, gd_t, hB.is, bd_t, if_pos rfl, bd_t]
      dsimp only
      rw [if_pos rfl, hB.fails, bd_t]
theorem num_sp {n l H : Nat} {P : Prop} {lo hi : Int32} (hl' : lo = nI l) (hh : hi = nI H - 1) (hH : H ≤ 2000) (hl : l ≤ 2000) (h : SP L B n P M1 M2) : ∃ M1' M2' v1 v2, f_X6_number M1 1 lo hi = some (M1', v1) ∧ f_X11_number M2 0 lo hi = some (M2', v2) ∧ OnT kC M1 M1' ∧ OnN kN M2 M2' ∧ SP L B n (P ∧ ∃ x, l ≤ x ∧ x < H ∧ v1 = nI x ∧ v2 = nI x) M1' M2' := by
  rcases h with ⟨hG, hP⟩ | hB
  · obtain ⟨M1', M2', v1, v2, a1, a2, a3, a4, a5⟩ := num_st hl' hh hH hl (Or.inl hG)
    exact ⟨M1', M2', v1, v2, a1, a2, a3, a4, a5.elim (fun z => Or.inl ⟨z.1, hP, z.2⟩) Or.inr⟩
  · obtain ⟨v1, e1⟩ := hB.here lo hi
    obtain ⟨M1'', r1, r2, r3⟩ := hB.next
    refine ⟨M1'', M2, v1, lo, ?_, hB.num _ _, r2, OnN.rf, Or.inr r3⟩
    unfold f_X6_number
    rw [oC_1, gd_t, e1, bd_t, r1, bd_t]
theorem next_sp {n : Nat} {P : Prop} (h : SP L B n P M1 M2) : ∃ M1' M2', f_X6_next M1 1 = some M1' ∧ (gI M2 0 12 = 0 → f_X11_next M2 0 = some M2') ∧ (¬ gI M2 0 12 = 0 → M2' = M2) ∧ OnT kC M1 M1' ∧ OnN kN M2 M2' ∧ SP L B n P M1' M2' ∧ (gI M2' 0 12 = 0 ↔ gI M2 0 12 = 0) := by
  rcases h with ⟨⟨a, e, t, ha, hG⟩, hP⟩ | hB
  · obtain ⟨M1', M2', a', e', t', q1, q2, q3, q4, q5, q6⟩ := hG.next
    exact ⟨M1', M2', q1, fun _ => q2, fun z => absurd hG.2.2.2.1 z, q3.mono (fun _ => tkC_k), q4.mono (fun _ => tkR_k), Or.inl ⟨⟨a', e', t', by have := hG.2.1.1; omega, q6⟩, hP⟩, ⟨fun _ => hG.2.2.2.1, fun _ => q6.2.2.2.1⟩⟩
  · obtain ⟨M1', r1, r2, r3⟩ := hB.next
    exact ⟨M1', M2, r1, fun z => absurd z hB.n, fun _ => rfl, r2, OnN.rf, Or.inr r3, Iff.rfl⟩
theorem OnT.w {S : Nat → Prop} (h : OnT S N1 M1) {a k : Nat} {v : Int32} : OnT S (sI N1 a k v) (sI M1 a k v) := ⟨h.1, fun b j q => by
  rw [gI_sI, gI_sI]
  by_cases z : b = a ∧ j = k
  · rw [if_pos z, if_pos z]
  · rw [if_neg z, if_neg z]
    exact h.2 b j q⟩
theorem OnT.wL {S : Nat → Prop} (h : OnT S N1 M1) {a k : Nat} {v : Int64} : OnT S (sL N1 a k v) (sL M1 a k v) := by
  refine ⟨?_, fun b j q => h.2 b j q⟩
  show ((fun b j => if b = a ∧ j = k then v else M1.2.1 b j), M1.2.2) = ((fun b j => if b = a ∧ j = k then v else N1.2.1 b j), N1.2.2)
  rw [h.1]
theorem OnN.w {S : Nat → Prop} (h : OnN S N2 M2) {a k : Nat} {v : Int32} : OnN S (sI N2 a k v) (sI M2 a k v) := ⟨h.1, fun b j q => by
  rw [gI_sI, gI_sI]
  by_cases z : b = a ∧ j = k
  · rw [if_pos z, if_pos z]
  · rw [if_neg z, if_neg z]
    exact h.2.1 b j q, h.2.2⟩
/-- what is written beside the tokens leaves the state of reading -/
theorem SP.kp {n : Nat} {P : Prop} {M1' M2' : Mem} (h : SP L B n P M1 M2) (r1 : M1'.2.2 = M1.2.2) (i1 : ∀ a k, (a = 1 ∨ a = 2) → gI M1' a k = gI M1 a k) (r2 : M2'.2.2 = M2.2.2) (i2 : ∀ a k, (a = 0 ∨ a = 5) → gI M2' a k = gI M2 a k) (l2 : gL M2' 0 11 = gL M2 0 11) : SP L B n P M1' M2' := by
  have gr1 : ∀ a k, gR M1' a k = gR M1 a k := fun a k => by
    show M1'.2.2 a k = M1.2.2 a k
    rw [r1]
  have gr2 : ∀ a k, gR M2' a k = gR M2 a k := fun a k => by
    show M2'.2.2 a k = M2.2.2 a k
    rw [r2]
  have tp : ∀ {Z Z' : Mem}, TP M1 Z L B → (∀ a k, gR Z' a k = gR Z a k) → (∀ a k, (a = 0 ∨ a = 5) → gI Z' a k = gI Z a k) → TP M1' Z' L B := fun hT g i => by
    obtain ⟨a1, a2, a3, a4, a5, a6, a7⟩ := hT
    exact ⟨fun a k q => (gr1 a k).trans (a1 a k q), fun a k => (g a k).trans (a2 a k), a3, (i1 1 1 (Or.inl rfl)).trans a4, (i 0 6 (Or.inl rfl)).trans a5, fun j hj => (i1 2 j (Or.inr rfl)).trans (a6 j hj), fun j hj => (i 5 j (Or.inr rfl)).trans (a7 j hj)⟩
  have tk : ∀ {Z Z' : Mem} {a e t : Nat}, TokR B L M1 Z a e t → (∀ k, gI Z' 0 k = gI Z 0 k) → gL Z' 0 11 = gL Z 0 11 → TokR B L M1' Z' a e t := fun hK i l => by
    unfold TokR
    rw [i1 1 4 (Or.inl rfl), i1 1 5 (Or.inl rfl), i1 1 6 (Or.inl rfl), i1 1 7 (Or.inl rfl), i, i, i, i, l]
    exact hK
  rcases h with ⟨⟨a, e, t, ha, hT, hK, h1, h2, h3⟩, hP⟩ | ⟨hT, ⟨k, pl, h1, h2, h3, h4, h5, h6, h7⟩, Z, a, e, t, z1, z2⟩
  · exact Or.inl ⟨⟨a, e, t, ha, tp hT gr2 i2, tk hK (fun k => i2 0 k (Or.inl rfl)) l2, (i1 1 2 (Or.inl rfl)).trans h1, (i2 0 12 (Or.inl rfl)).trans h2, (i1 1 3 (Or.inl rfl)).trans h3⟩, hP⟩
  · exact Or.inr ⟨tp hT gr2 i2, ⟨k, pl, h1, h2, h3, (i1 1 2 (Or.inl rfl)).trans h4, (i2 0 12 (Or.inl rfl)).trans h5, (i1 1 3 (Or.inl rfl)).trans h6, (i2 0 13 (Or.inl rfl)).trans h7⟩, Z, a, e, t, tp z1 (fun _ _ => rfl) (fun _ _ _ => rfl), tk z2 (fun _ => rfl) rfl⟩
theorem SP.w1 {n : Nat} {P : Prop} (h : SP L B n P M1 M2) {a k : Nat} {v : Int32} (ha : 3 ≤ a) : SP L B n P (sI M1 a k v) M2 :=
  h.kp rfl (fun b j q => by rw [gI_sI, if_neg (by omega)]) rfl (fun _ _ _ => rfl) rfl
theorem SP.w1L {n : Nat} {P : Prop} (h : SP L B n P M1 M2) {a k : Nat} {v : Int64} : SP L B n P (sL M1 a k v) M2 :=
  h.kp rfl (fun _ _ _ => rfl) rfl (fun _ _ _ => rfl) rfl
theorem SP.w2 {n : Nat} {P : Prop} (h : SP L B n P M1 M2) {a k : Nat} {v : Int32} (ha : 6 ≤ a) : SP L B n P M1 (sI M2 a k v) :=
  h.kp rfl (fun _ _ _ => rfl) rfl (fun b j q => by rw [gI_sI, if_neg (by omega)]) rfl
theorem SP.c {n : Nat} {P : Prop} (h : SP L B n P M1 M2) : CR M1 := h.elim (fun z => by obtain ⟨⟨a, e, t, -, hG⟩, -⟩ := z; exact hG.1.1) (fun z => z.1.1)
theorem SP.r {n : Nat} {P : Prop} (h : SP L B n P M1 M2) : RR M2 := h.elim (fun z => by obtain ⟨⟨a, e, t, -, hG⟩, -⟩ := z; exact hG.1.2.1) (fun z => z.1.2.1)
theorem SP.im {n : Nat} {P Q : Prop} (h : SP L B n P M1 M2) (hPQ : P → Q) : SP L B n Q M1 M2 := h.elim (fun z => Or.inl ⟨z.1, hPQ z.2⟩) Or.inr
/-- a number read and written on both sides -/
theorem fld_n {n l H x j c i : Nat} {P : Prop} {lo hi : Int32} (hl' : lo = nI l) (hh : hi = nI H - 1) (hH : H ≤ 2000) (hl : l ≤ 2000) (hx : 3 ≤ x) (hc : 6 ≤ c) (h : SP L B n P M1 M2) (o1 : OnT kC N1 M1) (o2 : OnN kN N2 M2) : ∃ Mb v1 Mc v2, f_X6_number M1 1 lo hi = some (Mb, v1) ∧ f_X11_number M2 0 lo hi = some (Mc, v2) ∧ OnT kC N1 Mb ∧ OnN kN N2 Mc ∧ OnT kC (sI N1 x j v1) (sI Mb x j v1) ∧ OnN kN (sI N2 c i v2) (sI Mc c i v2) ∧ CR Mb ∧ RR Mc ∧ SP L B n (P ∧ ∃ y, l ≤ y ∧ y < H ∧ v1 = nI y ∧ v2 = nI y) (sI Mb x j v1) (sI Mc c i v2) := by
  obtain ⟨Mb, Mc, v1, v2, a1, a2, a3, a4, a5⟩ := num_sp hl' hh hH hl h
  exact ⟨Mb, v1, Mc, v2, a1, a2, o1.tr a3, o2.tr a4, (o1.tr a3).w, (o2.tr a4).w, a5.c, a5.r, (a5.w1 hx).w2 hc⟩
theorem fld_w {n l H x j c i i0 : Nat} {P : Prop} {lo hi : Int32} {w : Int64} (hw : w = wT i0) (hi0 : i0 < 26) (hl' : lo = nI l) (hh : hi = nI H - 1) (hH : H ≤ 2000) (hl : l ≤ 2000) (hx : 3 ≤ x) (hc : 6 ≤ c) (h : SP L B n P M1 M2) (o1 : OnT kC N1 M1) (o2 : OnN kN N2 M2) : ∃ Ma Mb v1 Mc v2, f_X6_word M1 1 i0 = some Ma ∧ f_X6_number Ma 1 lo hi = some (Mb, v1) ∧ f_X11_number_ M2 0 w lo hi = some (Mc, v2) ∧ OnT kC N1 Ma ∧ OnT kC N1 Mb ∧ OnN kN N2 Mc ∧ OnT kC (sI N1 x j v1) (sI Mb x j v1) ∧ OnN kN (sI N2 c i v2) (sI Mc c i v2) ∧ CR Ma ∧ CR Mb ∧ RR Mc ∧ SP L B n (P ∧ ∃ y, l ≤ y ∧ y < H ∧ v1 = nI y ∧ v2 = nI y) (sI Mb x j v1) (sI Mc c i v2) := by
  subst hw
  obtain ⟨Ma, Mz, b1, b2, b3, b4, b5⟩ := word_sp hi0 h
  obtain ⟨Mb, Mc, v1, v2, a1, a2, a3, a4, a5⟩ := num_sp hl' hh hH hl b5
  refine ⟨Ma, Mb, v1, Mc, v2, b1, a1, ?_, o1.tr b3, (o1.tr b3).tr a3, (o2.tr b4).tr a4, ((o1.tr b3).tr a3).w, ((o2.tr b4).tr a4).w, b5.c, a5.c, a5.r, (a5.w1 hx).w2 hc⟩
  unfold f_X11_number_
  rw [oR, gd_t, b2, bd_t, a2, bd_t]
theorem hasRead_eq {j : Nat} (hR : RR M2) (hj : j < 6) {x : Int32} (hx : x = nI j) : f_X11_hasRead M2 0 x = some (gI M2 7 (24 + j)) := by
  subst hx
  unfold f_X11_hasRead
  rw [oR, gd_t, rr_17 hR, bd_t, show (24 : Int32) + nI j = nI (24 + j) from nI_add 24 j, aB_t (24 + j) zR_7 rfl (by omega) (by decide), gd_t, nI_clamp (by omega)]
/-- one word or the other: a test that both make -/
theorem is_sp {n i : Nat} {P : Prop} (hi : i < 26) (h : SP L B n P M1 M2) : ∃ b b' : Bool, f_X6_isWord M1 1 i = some (bI b) ∧ f_X11_is M2 0 (wT i) = some (bI b') ∧ SP L B n (P ∧ b = b') M1 M2 := by
  rcases h with ⟨⟨a, e, t, ha, hG⟩, hP⟩ | hB
  · obtain ⟨b, b1, b2, -⟩ := isWord_both hi hG.1 hG.2.1
    exact ⟨b, b, b1, b2 hG.2.2.2.1, Or.inl ⟨⟨a, e, t, ha, hG⟩, hP, rfl⟩⟩
  · obtain ⟨b, b1⟩ := hB.isWord hi
    exact ⟨b, false, b1, hB.is _, Or.inr hB⟩
theorem fail_sp {n k : Nat} {P : Prop} (h1 : 1 ≤ k) (h3 : k ≤ 3) (h : SP L B n P M1 M2) : ∃ M1' M2', f_X6_refuse M1 1 (nI k) = some M1' ∧ f_X11_fails M2 0 (nI k) = some M2' ∧ OnT kC M1 M1' ∧ OnN kN M2 M2' ∧ PB L B M1' M2' := by
  rcases h with ⟨⟨a, e, t, ha, hG⟩, hP⟩ | hB
  · exact hG.fail h1 h3
  · exact ⟨M1, M2, hB.refuse _, hB.fails _, OnT.rf, OnN.rf, hB⟩
theorem SP.good {n : Nat} {P : Prop} (h : SP L B n P M1 M2) (g : gI M2 0 12 = 0) : (∃ a e t, n ≤ a ∧ PG L B M1 M2 a e t) ∧ P := h.elim id (fun z => absurd g z.n)
theorem SP.bad {n : Nat} {P : Prop} (h : SP L B n P M1 M2) (g : ¬ gI M2 0 12 = 0) : PB L B M1 M2 := h.elim (fun z => by
  obtain ⟨⟨a, e, t, -, hG⟩, -⟩ := z
  exact absurd hG.2.2.2.1 g) id
end SPx
/-! the market that is being read: the class's draft at d, the reference's slot 4 -/
def StkM (M1 M2 : Mem) (D : MK) : Prop := (∃ (n : Nat) (sr sf st : Nat → Nat), n ≤ 4 ∧ gI M1 1 8 = nI n ∧ gI M2 7 29 = nI n ∧ (∀ i, i < n → sr i < kNr D ∧ sf i ≤ 59 ∧ st i ≤ 59 ∧ gI M2 12 (3 * (16 + i)) = nI (sr i) ∧ gI M2 12 (3 * (16 + i) + 1) = nI (sf i) ∧ gI M2 12 (3 * (16 + i) + 2) = nI (st i)) ∧ ∀ r m, kSt D r m = 1 ↔ ∃ i, i < n ∧ sr i = r ∧ sf i ≤ m ∧ m ≤ st i) ∧ ∀ r m, kSt D r m ≤ 1
def MkR (d : Nat) (D : MK) (M1 M2 : Mem) : Prop := WFD D ∧ StkIn D ∧ CM M1 d D ∧ RM0 M2 4 D ∧ StkM M1 M2 D
theorem RM0.h4 {M : Mem} {D : MK} (h : RM0 M 4 D) : gI M 7 24 = nI (kP D) ∧ gI M 7 25 = nI (kMi D) ∧ gI M 6 4 = nI (kLn D) ∧ gI M 7 26 = nI (kNr D) ∧ gI M 7 27 = nI (kNs D) ∧ gI M 7 28 = nI (kNb D) := h.1
/-- what a line leaves: a market with one line's more, all else as it was -/
def KpC (d : Nat) (M M' : Mem) : Prop := M'.2.2 = M.2.2 ∧ (∀ a k, ¬ (a = 1 ∧ (kC k ∨ k = 8)) → (inB d a → a = d ∧ k = 2) → gI M' a k = gI M a k) ∧ ∀ a k, ¬ inB d a → gL M' a k = gL M a k
def KpR (M M' : Mem) : Prop := M'.2.2 = M.2.2 ∧ (∀ a k, ¬ (a = 0 ∧ kN k) → (slR 4 a k → a = 6 ∧ k = 4) → gI M' a k = gI M a k) ∧ ∀ a k, ¬ (a = 0 ∧ k = 11) → gL M' a k = gL M a k
section KP
variable {d : Nat} {M M' M'' : Mem}
theorem KpC.rf : KpC d M M := ⟨rfl, fun _ _ _ _ => rfl, fun _ _ _ => rfl⟩
theorem KpC.tr (h : KpC d M M') (h' : KpC d M' M'') : KpC d M M'' := ⟨h'.1.trans h.1, fun a k q r => (h'.2.1 a k q r).trans (h.2.1 a k q r), fun a k q => (h'.2.2 a k q).trans (h.2.2 a k q)⟩
theorem KpC.T (h : OnT kC M M') : KpC d M M' := ⟨by rw [h.1], fun a k q _ => h.2 a k (fun z => q ⟨z.1, Or.inl z.2⟩), fun a k _ => h.gL a k⟩
theorem KpC.I {a k : Nat} {v : Int32} (h : KpC d M M') (ha : inB d a ∨ (a = 1 ∧ k = 8)) (hk : ¬ (a = d ∧ k = 2) := by omega) : KpC d M (sI M' a k v) := ⟨h.1, fun b j q r => by
  rw [gI_sI, if_neg (fun z => by
    rcases ha with y | ⟨y, y2⟩
    · exact hk (by rw [← z.1, ← z.2]; exact r (by rw [z.1]; exact y))
    · exact q ⟨z.1.trans y, Or.inr (z.2.trans y2)⟩)]
  exact h.2.1 b j q r, h.2.2⟩
theorem KpC.L {a k : Nat} {v : Int64} (h : KpC d M M') (ha : inB d a) : KpC d M (sL M' a k v) := ⟨h.1, h.2.1, fun b j r => by
  rw [gL_sL, if_neg (fun z => r (by rw [z.1]; exact ha))]
  exact h.2.2 b j r⟩
theorem KpR.rf : KpR M M := ⟨rfl, fun _ _ _ _ => rfl, fun _ _ _ => rfl⟩
theorem KpR.tr (h : KpR M M') (h' : KpR M' M'') : KpR M M'' := ⟨h'.1.trans h.1, fun a k q r => (h'.2.1 a k q r).trans (h.2.1 a k q r), fun a k q => (h'.2.2 a k q).trans (h.2.2 a k q)⟩
theorem KpR.N (h : OnN kN M M') : KpR M M' := ⟨h.1, fun a k q _ => h.2.1 a k q, h.2.2⟩
theorem KpR.I {a k : Nat} {v : Int32} (h : KpR M M') (ha : slR 4 a k) (hk : ¬ (a = 6 ∧ k = 4) := by omega) : KpR M (sI M' a k v) := ⟨h.1, fun b j q r => by
  rw [gI_sI, if_neg (fun z => hk (by rw [← z.1, ← z.2]; exact r (by rw [z.1, z.2]; exact ha)))]
  exact h.2.1 b j q r, h.2.2⟩
end KP
theorem sl_6 : slR 4 6 4 := ⟨1, by decide, by decide, by decide⟩
theorem sl_7 {k : Nat} (h : 24 ≤ k ∧ k < 30) : slR 4 7 k := ⟨6, by decide, by omega, by omega⟩
theorem sl_8 {k : Nat} (h : 24 ≤ k ∧ k < 30) : slR 4 8 k := ⟨6, by decide, by omega, by omega⟩
theorem sl_9 {k : Nat} (h : 224 ≤ k ∧ k < 280) : slR 4 9 k := ⟨56, by decide, by omega, by omega⟩
theorem sl_10 {k : Nat} (h : 96 ≤ k ∧ k < 120) : slR 4 10 k := ⟨24, by decide, by omega, by omega⟩
theorem sl_11 {k : Nat} (h : 216 ≤ k ∧ k < 270) : slR 4 11 k := ⟨54, by decide, by omega, by omega⟩
theorem sl_12 {k : Nat} (h : 48 ≤ k ∧ k < 60) : slR 4 12 k := ⟨12, by decide, by omega, by omega⟩
theorem MkR.keep {d : Nat} {D : MK} {M1 M2 M1' M2' : Mem} (h : MkR d D M1 M2) (hd : d = 3 ∨ d = 42) (o1 : OnT kC M1 M1') (o2 : OnN kN M2 M2') : MkR d D M1' M2' := by
  obtain ⟨h1, h2, h3, h4, ⟨n, sr, sf, st, g1, g2, g3, g4, g5⟩, h6⟩ := h
  have e : ∀ a k, 1 ≤ a → gI M2' a k = gI M2 a k := fun a k z => o2.2.1 a k (by omega)
  refine ⟨h1, h2, h3.keep h1.n (fun a z1 z2 => ⟨fun k => o1.2 a k (by omega), fun k => o1.gL a k⟩), ?_, ⟨n, sr, sf, st, g1, ?_, ?_, fun i hi => ?_, g5⟩, h6⟩
  · unfold RM0
    simp only [e 7 _ (by decide), e 6 _ (by decide), e 8 _ (by decide), e 9 _ (by decide), e 10 _ (by decide), e 11 _ (by decide)]
    exact h4
  · rw [o1.2 _ _ (by unfold kC; omega)]; exact g2
  · rw [e _ _ (by decide)]; exact g3
  · rw [e _ _ (by decide), e _ _ (by decide), e _ _ (by decide)]; exact g4 i hi
/-- a line's end, ahead of the sign: a market read on (with its line counted), or a fault -/
def LnE (L : Nat) (B : Nat → Int32) (n d : Nat) (ln : Nat) (M1 M2 M1' M2' : Mem) : Prop := SP L B n (∃ D', MkR d D' (sI M1' d 2 (nI (ln + 1))) (sI M2' 6 4 (nI (ln + 1))) ∧ kLn D' = ln + 1) M1' M2' ∧ KpC d M1 M1' ∧ KpR M2 M2'
