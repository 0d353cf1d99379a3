/-! AN HOUR, as a function. H: tag, place, place. 0 price, 1 stock, 2 sold now, 3 too dear now (stall); 4 coins, 5 lack (buyer, want), 6 last bought in + 1, 7 done in + 1 (buyer); 8 sales; 9 a sale (i; 0 minute, 1 stall, 2 buyer, 3 price); 10 asked, 11 left (stall, minute); 12 purse, 13 bought (buyer, minute) -/
abbrev HS : Type := Nat → Nat → Nat → Nat
def kWs (D : MK) (b g : Nat) : Nat → Nat → Option Nat
  | 0, _ => none
  | n + 1, w => if kWt D b w 0 = g then some w else kWs D b g n (w + 1)
/-- the want of a good -/
def kWo (D : MK) (b g : Nat) : Option Nat := kWs D b g (kBy D b 3) 0
def lkS (H : HS) (b : Nat) : Nat → Nat
  | 0 => 0
  | w + 1 => lkS H b w + H 5 b w
def wdS (D : MK) (H : HS) (b asks limit m : Nat) : Bool :=
  if kBy D b 2 = 1 then decide (kMi D ≤ 2 * m) || decide (asks ≤ limit / 2) else if kBy D b 2 = 2 then !(decide (0 < m) && H 13 b (m - 1) == 1) && !(decide (1 < m) && H 13 b (m - 2) == 1) else true
/-- lacks without the piece that is bought -/
def slL (H : HS) (b w : Nat) : HS := fun t i j => if t = 5 ∧ i = b ∧ j = w then H 5 b w - 1 else H t i j
def slS (D : MK) (H : HS) (m s b w : Nat) : HS := fun t i j =>
  if t = 5 ∧ i = b ∧ j = w then H 5 b w - 1 else if t = 1 ∧ i = s then H 1 s 0 - 1 else if t = 4 ∧ i = b then H 4 b 0 - H 0 s 0 else if t = 2 ∧ i = s then 1 else if t = 6 ∧ i = b then m + 1 else if t = 13 ∧ i = b ∧ j = m then 1 else if t = 7 ∧ i = b then (if lkS (slL H b w) b (kBy D b 3) = 0 then m + 1 else H 7 b 0) else if t = 9 ∧ i = H 8 0 0 then (if j = 0 then m else if j = 1 then s else if j = 2 then b else H 0 s 0) else if t = 8 then H 8 0 0 + 1 else H t i j
def drS (H : HS) (s : Nat) : HS := fun t i j => if t = 3 ∧ i = s then 1 else H t i j
def mtS (D : MK) (m s b : Nat) (H : HS) : HS := match kWo D b (kSl D s 2) with
  | none => H
  | some w => if H 1 s 0 = 0 ∨ H 5 b w = 0 then H else if kWt D b w 2 < H 0 s 0 ∨ H 4 b 0 < H 0 s 0 then drS H s else if wdS D H b (H 0 s 0) (kWt D b w 2) m then slS D H m s b w else H
/-- what a stall asks while nobody buys -/
def qpS (D : MK) (s m : Nat) : Nat := if kSl D s 5 = 1 then kSl D s 4 - kSl D s 6 * kTn D (kSl D s 0) m else kSl D s 4
def opS (D : MK) (m : Nat) (H : HS) : HS := fun t i j =>
  if t = 0 ∧ i < kNs D ∧ kSl D i 5 = 1 then qpS D i m else if t = 10 ∧ i < kNs D ∧ j = m then (if kSl D i 5 = 1 then qpS D i m else H 0 i 0) else if (t = 2 ∨ t = 3) ∧ i < kNs D then 0 else H t i j
def clS (D : MK) (m : Nat) (H : HS) : HS := fun t i j =>
  if t = 0 ∧ i < kNs D ∧ kSl D i 5 = 2 then (if H 2 i 0 = 1 then min 99 (H 0 i 0 + kSl D i 6) else if H 3 i 0 = 1 then H 0 i 0 - kSl D i 6 else H 0 i 0) else if t = 11 ∧ i < kNs D ∧ j = m then H 1 i 0 else if t = 12 ∧ i < kNb D ∧ j = m then H 4 i 0 else H t i j
def trB (D : MK) (m p s : Nat) (H : HS) : Nat → HS
  | 0 => H
  | b + 1 => if kBy D b 0 = p then mtS D m s b (trB D m p s H b) else trB D m p s H b
def trS (D : MK) (m p : Nat) (H : HS) : Nat → HS
  | 0 => H
  | s + 1 => if kPl D s m = p then trB D m p s (trS D m p H s) (kNb D) else trS D m p H s
def trP (D : MK) (m : Nat) (H : HS) : Nat → HS
  | 0 => H
  | p + 1 => trS D m p (trP D m H p) (kNs D)
def bgS (D : MK) : HS := fun t i j =>
  if t = 0 then kSl D i 4 else if t = 1 then kSl D i 3 else if t = 4 then kBy D i 1 else if t = 5 then (if j < kBy D i 3 then kWt D i j 1 else 0) else if t = 7 then (if kBy D i 3 = 0 then 1 else 0) else 0
def hrS (D : MK) : Nat → HS
  | 0 => bgS D
  | m + 1 => clS D m (trP D m (opS D m (hrS D m)) (kP D))
/-- what is left of all stalls -/
def stS (H : HS) : Nat → Nat
  | 0 => 0
  | s + 1 => stS H s + H 1 s 0
def pcS (D : MK) : Nat → Nat
  | 0 => 0
  | s + 1 => pcS D s + kSl D s 3
/-- what holds of an hour in the minute m -/
def IvH (D : MK) (m : Nat) (H : HS) : Prop := (∀ s, s < kNs D → H 0 s 0 ≤ 99 ∧ H 1 s 0 ≤ 20 ∧ H 2 s 0 ≤ 1 ∧ H 3 s 0 ≤ 1) ∧ (∀ b, b < kNb D → H 4 b 0 ≤ 999 ∧ ∀ w, w < 3 → H 5 b w ≤ 9) ∧ H 8 0 0 + stS H (kNs D) = pcS D (kNs D) ∧
  (∀ b, b < kNb D → H 6 b 0 ≤ m + 1 ∧ H 7 b 0 ≤ m + 1 ∧ (∀ j, H 13 b j ≤ 1) ∧ (∀ j, H 6 b 0 ≤ j → H 13 b j = 0) ∧ (0 < H 6 b 0 → H 13 b (H 6 b 0 - 1) = 1) ∧ (kBy D b 2 = 2 → H 6 b 0 = m + 1 → (0 < m → H 13 b (m - 1) = 0) ∧ (1 < m → H 13 b (m - 2) = 0)))
theorem pcS_le {D : MK} (hW : WFD D) : ∀ n, n ≤ kNs D → pcS D n ≤ 20 * n
  | 0, _ => Nat.le_refl _
  | n + 1, h => by
    have := pcS_le hW n (by omega)
    have := (hW.2.2.2.2.2.1 n (by omega)).2.2.2.1
    unfold pcS
    omega
theorem stS_pos {H : HS} : ∀ {n s : Nat}, s < n → H 1 s 0 ≤ stS H n
  | 0, s, h => by omega
  | n + 1, s, h => by
    unfold stS
    by_cases e : s = n
    · subst e; omega
    · have := stS_pos (H := H) (n := n) (s := s) (by omega)
      omega
theorem IvH.lt {D : MK} {m s : Nat} {H : HS} (h : IvH D m H) (hW : WFD D) (hs : s < kNs D) (h0 : 0 < H 1 s 0) : H 8 0 0 < 160 := by
  have h1 := pcS_le hW (kNs D) (Nat.le_refl _)
  have h2 := stS_pos (H := H) hs
  have h3 := h.2.2.1
  have := hW.2.2.1
  omega
theorem kWs_lt {D : MK} {b g : Nat} : ∀ {n w v : Nat}, kWs D b g n w = some v → w ≤ v ∧ v < w + n ∧ kWt D b v 0 = g
  | 0, w, v, h => by cases h
  | n + 1, w, v, h => by
    unfold kWs at h
    by_cases e : kWt D b w 0 = g
    · rw [if_pos e] at h
      cases h
      exact ⟨Nat.le_refl _, by omega, e⟩
    · rw [if_neg e] at h
      have := kWs_lt h
      omega
theorem kWo_lt {D : MK} {b g v : Nat} (h : kWo D b g = some v) : v < kBy D b 3 ∧ kWt D b v 0 = g := by
  have := kWs_lt h
  omega
theorem stS_cong {H H' : HS} : ∀ n, (∀ s, s < n → H' 1 s 0 = H 1 s 0) → stS H' n = stS H n
  | 0, _ => rfl
  | n + 1, h => by
    unfold stS
    rw [stS_cong n (fun s hs => h s (by omega)), h n (by omega)]
theorem stS_dec {H H' : HS} {s : Nat} : ∀ n, s < n → (∀ i, i ≠ s → H' 1 i 0 = H 1 i 0) → H' 1 s 0 + 1 = H 1 s 0 → stS H' n + 1 = stS H n
  | 0, h, _, _ => by omega
  | n + 1, h, h1, h2 => by
    unfold stS
    by_cases e : s = n
    · subst e
      rw [stS_cong s (fun i hi => h1 i (by omega))]
      omega
    · have := stS_dec n (by omega) h1 h2
      rw [h1 n (fun z => e z.symm)]
      omega
theorem IvH.dr {D : MK} {m s : Nat} {H : HS} (h : IvH D m H) : IvH D m (drS H s) := by
  obtain ⟨a, b, c, d⟩ := h
  refine ⟨fun i hi => ?_, fun i hi => ?_, ?_, fun i hi => ?_⟩
  · have := a i hi
    refine ⟨this.1, this.2.1, this.2.2.1, ?_⟩
    unfold drS
    split
    · exact Nat.le_refl _
    · exact this.2.2.2
  · exact b i hi
  · have : stS (drS H s) (kNs D) = stS H (kNs D) := stS_cong _ (fun i _ => rfl)
    rw [this]
    exact c
  · exact d i hi
theorem IvH.sl {D : MK} {m s b w : Nat} {H : HS} (h : IvH D m H) (hs : s < kNs D) (hb : b < kNb D) (hw : w < 3) (h0 : 0 < H 1 s 0) (hwd : wdS D H b (H 0 s 0) (kWt D b w 2) m = true) : IvH D m (slS D H m s b w) := by
  obtain ⟨a, bb, c, d⟩ := h
  refine ⟨fun i hi => ?_, fun i hi => ⟨?_, fun v hv => ?_⟩, ?_, fun i hi => ?_⟩
  · have := a i hi
    refine ⟨this.1, ?_, ?_, this.2.2.2⟩
    · simp only [slS]
      by_cases e : i = s
      · subst e; simp; omega
      · simp [e]; exact this.2.1
    · simp only [slS]
      by_cases e : i = s
      · subst e; simp
      · simp [e]; exact this.2.2.1
  · have := (bb i hi).1
    simp only [slS]
    by_cases e : i = b
    · subst e; simp; omega
    · simp [e]; exact this
  · have := (bb i hi).2 v hv
    simp only [slS]
    by_cases e : i = b ∧ v = w
    · obtain ⟨rfl, rfl⟩ := e; simp; omega
    · simp [e]; exact this
  · have h1 : stS (slS D H m s b w) (kNs D) + 1 = stS H (kNs D) := stS_dec _ hs (fun i hi => by simp [slS, hi]) (by simp [slS]; omega)
    have h2 : slS D H m s b w 8 0 0 = H 8 0 0 + 1 := by simp [slS]
    omega
  · have hd := d i hi
    by_cases e : i = b
    · subst e
      have e6 : slS D H m s i w 6 i 0 = m + 1 := by simp [slS]
      have e13 : ∀ j, slS D H m s i w 13 i j = if j = m then 1 else H 13 i j := fun j => by simp [slS]
      rw [e6]
      refine ⟨Nat.le_refl _, ?_, fun j => ?_, fun j hj => ?_, fun _ => ?_, fun h2 _ => ?_⟩
      · simp only [slS]
        simp
        split
        · exact Nat.le_refl _
        · exact hd.2.1
      · rw [e13]
        split
        · exact Nat.le_refl _
        · exact hd.2.2.1 j
      · rw [e13, if_neg (by omega)]
        exact hd.2.2.2.1 j (by omega)
      · rw [e13, if_pos (by omega)]
      · unfold wdS at hwd
        rw [if_neg (by omega), if_pos h2] at hwd
        simp only [Bool.and_eq_true, Bool.not_eq_true', Bool.and_eq_false_iff, decide_eq_false_iff_not, beq_eq_false_iff_ne] at hwd
        have hb1 := hd.2.2.1 (m - 1)
        have hb2 := hd.2.2.1 (m - 2)
        refine ⟨fun hm => ?_, fun hm => ?_⟩
        · rw [e13, if_neg (by omega)]
          rcases hwd.1 with z | z <;> omega
        · rw [e13, if_neg (by omega)]
          rcases hwd.2 with z | z <;> omega
    · have e6 : slS D H m s b w 6 i 0 = H 6 i 0 := by simp [slS, e]
      have e7 : slS D H m s b w 7 i 0 = H 7 i 0 := by simp [slS, e]
      have e13 : ∀ j, slS D H m s b w 13 i j = H 13 i j := fun j => by simp [slS, e]
      simp only [e6, e7, e13]
      exact hd
theorem IvH.mt {D : MK} {m s b : Nat} {H : HS} (h : IvH D m H) (hW : WFD D) (hs : s < kNs D) (hb : b < kNb D) : IvH D m (mtS D m s b H) := by
  unfold mtS
  split
  · exact h
  · rename_i w hw
    have hw3 := (kWo_lt hw).1
    have := (hW.2.2.2.2.2.2 b hb).2.2.2.1
    split
    · exact h
    · split
      · exact h.dr
      · split
        · rename_i h1 h2 h3
          exact h.sl hs hb (by omega) (by omega) h3
        · exact h
