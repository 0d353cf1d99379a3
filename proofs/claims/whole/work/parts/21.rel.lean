/-! THE RELATION of the two memories. A market is a function D: tag, place, place, place → number. -/
abbrev MK : Type := Nat → Nat → Nat → Nat → Nat
def kP (D : MK) : Nat := D 0 0 0 0
def kMi (D : MK) : Nat := D 0 1 0 0
def kLn (D : MK) : Nat := D 0 2 0 0
def kNr (D : MK) : Nat := D 0 3 0 0
def kNs (D : MK) : Nat := D 0 4 0 0
def kNb (D : MK) : Nat := D 0 5 0 0
def kRg (D : MK) (r j : Nat) : Nat := D 1 r j 0
def kSt (D : MK) (r m : Nat) : Nat := D 2 r m 0
def kSl (D : MK) (s j : Nat) : Nat := D 3 s j 0
def kBy (D : MK) (b j : Nat) : Nat := D 4 b j 0
def kWt (D : MK) (b i j : Nat) : Nat := D 5 b i j
/-- bounds of a market that was read, or of none -/
def WFD (D : MK) : Prop := ((kLn D = 0 ∧ kP D = 0 ∧ kMi D = 0 ∧ kNr D = 0 ∧ kNs D = 0 ∧ kNb D = 0) ∨ (1 ≤ kLn D ∧ kLn D ≤ 2000 ∧ 2 ≤ kP D ∧ kP D ≤ 12 ∧ 1 ≤ kMi D ∧ kMi D ≤ 60)) ∧ kNr D ≤ 3 ∧ kNs D ≤ 8 ∧ kNb D ≤ 6 ∧
  (∀ r, r < kNr D → kRg D r 0 ≤ 60 ∧ kRg D r 1 ≤ 1 ∧ ∀ m, kSt D r m ≤ 1) ∧
  (∀ s, s < kNs D → kSl D s 0 < kNr D ∧ kSl D s 1 < kP D ∧ kSl D s 2 ≤ 5 ∧ kSl D s 3 ≤ 20 ∧ kSl D s 4 ≤ 99 ∧ kSl D s 5 ≤ 2 ∧ kSl D s 6 ≤ 20) ∧
  (∀ b, b < kNb D → kBy D b 0 < kP D ∧ kBy D b 1 ≤ 999 ∧ kBy D b 2 ≤ 2 ∧ kBy D b 3 ≤ 3 ∧ (∀ w, w < kBy D b 3 → kWt D b w 0 ≤ 5 ∧ 1 ≤ kWt D b w 1 ∧ kWt D b w 1 ≤ 9 ∧ kWt D b w 2 ≤ 99) ∧ ∀ w v, w < kBy D b 3 → v < kBy D b 3 → kWt D b w 0 = kWt D b v 0 → w = v)
/-- no ring is stuck behind the last minute -/
def StkIn (D : MK) : Prop := ∀ r m, r < kNr D → kMi D ≤ m → kSt D r m = 0
def bitL (x : Int64) (m : Nat) : Bool := x.toBitVec.getLsbD m
/-- the class's market at b is D -/
def CM (M : Mem) (b : Nat) (D : MK) : Prop := (gI M b 0 = nI (kP D) ∧ gI M b 1 = nI (kMi D) ∧ gI M b 2 = nI (kLn D) ∧ gI M b 3 = nI (kNr D) ∧ gI M b 4 = nI (kNs D) ∧ gI M b 5 = nI (kNb D)) ∧
  (∀ r, r < kNr D → gI M (b + 4 + r) 0 = nI (kRg D r 0) ∧ gI M (b + 4 + r) 1 = nI (kRg D r 1) ∧ ∀ m, m < 64 → bitL (gL M (b + 4 + r) 2) m = (kSt D r m == 1)) ∧
  (∀ s, s < kNs D → ∀ j, j < 7 → gI M (b + 7 + s) j = nI (kSl D s j)) ∧
  (∀ i, i < kNb D → (∀ j, j < 4 → gI M (b + 15 + 4 * i) j = nI (kBy D i j)) ∧ ∀ w, w < kBy D i 3 → gI M (b + 16 + 4 * i) w = nI (kWt D i w 0) ∧ gI M (b + 17 + 4 * i) w = nI (kWt D i w 1) ∧ gI M (b + 18 + 4 * i) w = nI (kWt D i w 2))
/-- the reference's market in the slot k is D, its stuck lines apart -/
def RM0 (M : Mem) (k : Nat) (D : MK) : Prop := (gI M 7 (6 * k) = nI (kP D) ∧ gI M 7 (6 * k + 1) = nI (kMi D) ∧ gI M 6 k = nI (kLn D) ∧ gI M 7 (6 * k + 2) = nI (kNr D) ∧ gI M 7 (6 * k + 3) = nI (kNs D) ∧ gI M 7 (6 * k + 4) = nI (kNb D)) ∧
  (∀ r, r < kNr D → gI M 8 (2 * (3 * k + r)) = nI (kRg D r 0) ∧ gI M 8 (2 * (3 * k + r) + 1) = if kRg D r 1 = 1 then 1 else -1) ∧
  (∀ s, s < kNs D → ∀ j, j < 7 → gI M 9 (7 * (8 * k + s) + j) = nI (kSl D s j)) ∧
  (∀ i, i < kNb D → (∀ j, j < 4 → gI M 10 (4 * (6 * k + i) + j) = nI (kBy D i j)) ∧ ∀ w, w < kBy D i 3 → ∀ j, j < 3 → gI M 11 (9 * (6 * k + i) + 3 * w + j) = nI (kWt D i w j))
/-- its stuck lines: n of them -/
def RMs (M : Mem) (k : Nat) (D : MK) : Prop := ∃ (n : Nat) (sr sf st : Nat → Nat), n ≤ 4 ∧ gI M 7 (6 * k + 5) = nI n ∧ (∀ i, i < n → sr i ≤ 2 ∧ sf i ≤ 59 ∧ st i ≤ 59 ∧ gI M 12 (3 * (4 * k + i)) = nI (sr i) ∧ gI M 12 (3 * (4 * k + i) + 1) = nI (sf i) ∧ gI M 12 (3 * (4 * k + i) + 2) = nI (st i)) ∧
  ∀ r m, r < kNr D → m < kMi D → (kSt D r m = 1 ↔ ∃ i, i < n ∧ sr i = r ∧ sf i ≤ m ∧ m ≤ st i)
def RM (M : Mem) (k : Nat) (D : MK) : Prop := RM0 M k D ∧ RMs M k D
/-- a row -/
def RowR (M1 M2 : Mem) (j : Nat) : Prop := (gI M1 (266 + 2 * j) 0 = 0 ∧ gI M2 1 j = -1) ∨ (gI M1 (266 + 2 * j) 0 = 1 ∧ ∃ w n : Nat, w ≤ 3 ∧ n ≤ 60 ∧ gI M1 (266 + 2 * j) 1 = nI w ∧ gI M2 1 j = nI w ∧ gI M1 (266 + 2 * j) 2 = nI n ∧ gI M2 2 j = nI n ∧ ∀ i, i < n → gL M1 (267 + 2 * j) i = gL M2 3 (60 * j + i))
/-- the tape, and what the last reading found -/
def TapeR (M1 M2 : Mem) : Prop := ∃ L : Nat, L ≤ 2000 ∧ gI M1 1 1 = nI L ∧ gI M2 0 6 = nI L ∧ (∀ i, i < L → gI M1 2 i = gI M2 5 i) ∧ gI M1 1 2 = gI M2 0 14 ∧ gI M1 1 3 = gI M2 0 15
def ImgR (M1 M2 : Mem) (j : Nat) : Prop := (gI M1 82 j = 0 ∧ gI M2 13 j = 0) ∨ (gI M1 82 j = 1 ∧ gI M2 13 j = 1 ∧ ∃ D : MK, WFD D ∧ StkIn D ∧ CM M1 (149 + 39 * j) D ∧ RM M2 (1 + j) D)
/-- two memories of the class that agree on all that lasts, p the market as it stands -/
def KeepC (p : Nat) (M M' : Mem) : Prop := CR M' ∧ gR M' 0 1 = gR M 0 1 ∧ gR M' 0 2 = gR M 0 2 ∧ (∀ k, gI M' 1 k = gI M 1 k) ∧ (∀ k, gI M' 2 k = gI M 2 k) ∧ (∀ a, p ≤ a → a < p + 39 → (∀ k, gI M' a k = gI M a k) ∧ ∀ k, gL M' a k = gL M a k) ∧ (∀ k, gI M' 82 k = gI M 82 k) ∧ (∀ a, 149 ≤ a → a < 274 → (∀ k, gI M' a k = gI M a k) ∧ ∀ k, gL M' a k = gL M a k)
/-- two memories of the reference that agree on all that lasts -/
def kR (a k : Nat) : Bool := (1 ≤ a && a ≤ 3) || (5 ≤ a && a ≤ 13) || (a == 0 && (k == 6 || k == 14 || k == 15))
def KeepR (M M' : Mem) : Prop := RR M' ∧ (∀ a k, kR a k = true → gI M' a k = gI M a k) ∧ ∀ k, gL M' 3 k = gL M 3 k
/-- all but the hour that is kept -/
def Rel0 (p d : Nat) (D : MK) (M1 M2 : Mem) : Prop := CR M1 ∧ RR M2 ∧ gR M1 0 1 = some p ∧ gR M1 0 2 = some d ∧ ((p = 3 ∧ d = 42) ∨ (p = 42 ∧ d = 3)) ∧ WFD D ∧ StkIn D ∧ CM M1 p D ∧ RM M2 0 D ∧ (∀ j, j < 3 → ImgR M1 M2 j) ∧ (∀ j, j < 4 → RowR M1 M2 j) ∧ TapeR M1 M2
theorem kM0 {M : Mem} (hR : RR M) : KeepR M (sI M 0 0 0) := by
  refine ⟨hR.I, fun a k h => ?_, fun _ => rfl⟩
  rw [gI_sI, if_neg]
  rintro ⟨rfl, rfl⟩
  cases h
theorem RM.keep {M M' : Mem} {k : Nat} {D : MK} (h : RM M k D) (hk : KeepR M M') : RM M' k D := by
  obtain ⟨-, e, -⟩ := hk
  have e' : ∀ a j, 5 ≤ a → a ≤ 13 → gI M' a j = gI M a j := fun a j h1 h2 => e a j (by simp [kR, h1, h2])
  obtain ⟨⟨h1, h2, h3, h4⟩, n, sr, sf, st, g1, g2, g3, g4⟩ := h
  refine ⟨⟨?_, ?_, ?_, ?_⟩, n, sr, sf, st, g1, ?_, ?_, g4⟩
  · simpa only [e' 7 _ (by decide) (by decide), e' 6 _ (by decide) (by decide)] using h1
  · simpa only [e' 8 _ (by decide) (by decide)] using h2
  · simpa only [e' 9 _ (by decide) (by decide)] using h3
  · simpa only [e' 10 _ (by decide) (by decide), e' 11 _ (by decide) (by decide)] using h4
  · rw [e' 7 _ (by decide) (by decide)]; exact g2
  · simpa only [e' 12 _ (by decide) (by decide)] using g3
theorem CM.keep {M M' : Mem} {b : Nat} {D : MK} (h : CM M b D) (hn : kNr D ≤ 3 ∧ kNs D ≤ 8 ∧ kNb D ≤ 6) (hk : ∀ a, b ≤ a → a < b + 39 → (∀ k, gI M' a k = gI M a k) ∧ ∀ k, gL M' a k = gL M a k) : CM M' b D := by
  obtain ⟨h1, h2, h3, h4⟩ := h
  refine ⟨?_, fun r hr => ?_, fun s hs j hj => ?_, fun i hi => ?_⟩
  · simpa only [(hk b (Nat.le_refl _) (by omega)).1] using h1
  · simpa only [(hk (b + 4 + r) (by omega) (by omega)).1, (hk (b + 4 + r) (by omega) (by omega)).2] using h2 r hr
  · rw [(hk (b + 7 + s) (by omega) (by omega)).1]; exact h3 s hs j hj
  · simpa only [(hk (b + 15 + 4 * i) (by omega) (by omega)).1, (hk (b + 16 + 4 * i) (by omega) (by omega)).1, (hk (b + 17 + 4 * i) (by omega) (by omega)).1, (hk (b + 18 + 4 * i) (by omega) (by omega)).1] using h4 i hi
theorem Rel0.keep {p d : Nat} {D : MK} {M1 M2 M1' M2' : Mem} (h : Rel0 p d D M1 M2) (h1 : KeepC p M1 M1') (h2 : KeepR M2 M2') : Rel0 p d D M1' M2' := by
  obtain ⟨a1, a2, a3, a4, a5, a6, a7, a8, a9, a10, a11, a12⟩ := h
  have hk2 := h2
  obtain ⟨c1, c2, c3, c4, c5, c6, c7, c8⟩ := h1
  obtain ⟨r1, r2, r3⟩ := h2
  have e1 : ∀ a k, 1 ≤ a → a ≤ 3 → gI M2' a k = gI M2 a k := fun a k q1 q2 => r2 a k (by simp [kR, q1, q2])
  have e2 : ∀ a k, 5 ≤ a → a ≤ 13 → gI M2' a k = gI M2 a k := fun a k q1 q2 => r2 a k (by simp [kR, q1, q2])
  refine ⟨c1, r1, by rw [c2]; exact a3, by rw [c3]; exact a4, a5, a6, a7, a8.keep ⟨a6.2.1, a6.2.2.1, a6.2.2.2.1⟩ c6, a9.keep hk2, fun j hj => ?_, fun j hj => ?_, ?_⟩
  · unfold ImgR
    rw [c7, e2 13 _ (by decide) (by decide)]
    rcases a10 j hj with h | ⟨g1, g2, D', g3, g4, g5, g6⟩
    · exact Or.inl h
    · exact Or.inr ⟨g1, g2, D', g3, g4, g5.keep ⟨g3.2.1, g3.2.2.1, g3.2.2.2.1⟩ (fun a q1 q2 => c8 a (by omega) (by omega)), g6.keep hk2⟩
  · unfold RowR
    rw [e1 1 _ (by decide) (by decide), e1 2 _ (by decide) (by decide), (c8 (266 + 2 * j) (by omega) (by omega)).1, (c8 (266 + 2 * j) (by omega) (by omega)).1, (c8 (266 + 2 * j) (by omega) (by omega)).1]
    simp only [(c8 (267 + 2 * j) (by omega) (by omega)).2, r3]
    exact a11 j hj
  · unfold TapeR
    simp only [c4, c5, r2 0 6 rfl, r2 0 14 rfl, r2 0 15 rfl, e2 5 _ (by decide) (by decide)]
    exact a12
