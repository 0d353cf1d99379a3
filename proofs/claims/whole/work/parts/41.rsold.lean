/-! A SALE, the reference: the hour then -/
def se5 (M : Mem) (s b m w : Nat) (u v c g : Int32) : Mem := sI (sI (sI (sI (sI M 16 s u) 26 (3 * b + w) v) 23 b c) 24 b g) 27 (60 * b + m) 1
def se6 (M : Mem) (b m : Nat) (z : Bool) : Mem := if z then sI M 25 b (nI m) else M
theorem se5_g {M : Mem} {s b m w : Nat} {u v c g : Int32} (a k : Nat) (q : ¬ ((a = 16 ∧ k = s) ∨ (a = 26 ∧ k = 3 * b + w) ∨ (a = 23 ∧ k = b) ∨ (a = 24 ∧ k = b) ∨ (a = 27 ∧ k = 60 * b + m))) : gI (se5 M s b m w u v c g) a k = gI M a k := by
  unfold se5
  rw [gI_sI, if_neg (by omega), gI_sI, if_neg (by omega), gI_sI, if_neg (by omega), gI_sI, if_neg (by omega), gI_sI, if_neg (by omega)]
theorem se6_g {M : Mem} {b m : Nat} {z : Bool} (a k : Nat) (q : ¬ (a = 25 ∧ k = b)) : gI (se6 M b m z) a k = gI M a k := by
  unfold se6
  split
  · rw [gI_sI, if_neg q]
  · rfl
theorem tr9_g {M : Mem} {s b m p n tk ct pd : Nat} {f : Int32} (a k : Nat) (q : ¬ ((a = 18 ∧ k = s) ∨ (a = 19 ∧ k = s) ∨ (a = 20 ∧ k = s) ∨ (a = 21 ∧ k = s) ∨ (a = 31 ∧ 4 * n ≤ k ∧ k < 4 * n + 4) ∨ (a = 0 ∧ (k = 46 ∨ k = 47)))) : gI (tr9 M s b m p n tk ct pd f) a k = gI M a k := by
  unfold tr9
  rw [gI_sI, if_neg (by omega), gI_sI, if_neg (by omega), gI_sI, if_neg (by omega), gI_sI, if_neg (by omega), gI_sI, if_neg (by omega), gI_sI, if_neg (by omega), gI_sI, if_neg (by omega), gI_sI, if_neg (by omega), gI_sI, if_neg (by omega), gI_sI, if_neg (by omega)]
theorem fs_step {n s' s m t : Nat} (F : Int32) (hF : F = if t = 0 then -1 else nI (t - 1)) (ht : t ≤ 61) : (if F = -1 then nI m else F) = if (if t = 0 then m + 1 else t) = 0 then -1 else nI ((if t = 0 then m + 1 else t) - 1) := by
  by_cases h : t = 0
  · subst h
    rw [hF, if_pos rfl, if_pos rfl, if_pos rfl, if_neg (by omega)]
    rfl
  · have e : F = nI (t - 1) := by rw [hF, if_neg h]
    have e2 : ¬ nI (t - 1) = (-1 : Int32) := fun z => by
      have := congrArg Int32.toInt z
      rw [nI_toInt (by omega)] at this
      have e3 : (-1 : Int32).toInt = -1 := by decide
      omega
    rw [e, if_neg e2, if_neg h, if_neg h]
theorem tkS_s {H : HS} {s n : Nat} : tkS H s (n + 1) = tkS H s n + if H 9 n 1 = s then H 9 n 3 else 0 := rfl
theorem ctS_s {H : HS} {s n : Nat} : ctS H s (n + 1) = ctS H s n + if H 9 n 1 = s then 1 else 0 := rfl
theorem fsS_s {H : HS} {s n : Nat} : fsS H s (n + 1) = if fsS H s n = 0 then (if H 9 n 1 = s then H 9 n 0 + 1 else 0) else fsS H s n := rfl
theorem gtS_s {H : HS} {b n : Nat} : gtS H b (n + 1) = gtS H b n + if H 9 n 2 = b then 1 else 0 := rfl
theorem pdS_s {H : HS} {n : Nat} : pdS H (n + 1) = pdS H n + H 9 n 3 := rfl
theorem RH.sl {M : Mem} {D : MK} {H : HS} {s b m w : Nat} (h : RH M D H) (hW : WFD D) (hs : s < kNs D) (hb : b < kNb D) (hm : m < kMi D) (hw : w < kBy D b 3) (h17 : 0 < H 1 s 0) (hp : H 0 s 0 ≤ H 4 b 0) (hx : 0 < H 5 b w) (hn : H 8 0 0 < 160) (hq : ∀ i, i < H 8 0 0 → H 9 i 0 ≤ 60) :
    RH (tr9 (se6 (se5 M s b m w (nI (H 1 s 0 - 1)) (nI (H 5 b w - 1)) (nI (H 4 b 0 - H 0 s 0)) (nI (gtS H b (H 8 0 0) + 1))) b m (decide (lkS (slL H b w) b (kBy D b 3) = 0))) s b m (H 0 s 0) (H 8 0 0) (tkS H s (H 8 0 0)) (ctS H s (H 8 0 0)) (pdS H (H 8 0 0)) (if gI M 20 s = -1 then nI m else gI M 20 s)) D (slS D H m s b w) := by
  have hby := hW.2.2.2.2.2.2 b hb
  have hMi := hW.mi
  have e8 : slS D H m s b w 8 0 0 = H 8 0 0 + 1 := by simp [slS]
  have e9 : ∀ i, i < H 8 0 0 → ∀ j, slS D H m s b w 9 i j = H 9 i j := fun i hi j => by
    have : i ≠ H 8 0 0 := by omega
    simp [slS, this]
  have e9n : slS D H m s b w 9 (H 8 0 0) 0 = m ∧ slS D H m s b w 9 (H 8 0 0) 1 = s ∧ slS D H m s b w 9 (H 8 0 0) 2 = b ∧ slS D H m s b w 9 (H 8 0 0) 3 = H 0 s 0 := by simp [slS]
  have fl := fsS_le (H := H) (s := s) (H 8 0 0) hq
  have hF := fs_step (n := 0) (s' := 0) (s := 0) (m := m) (t := fsS H s (H 8 0 0)) (gI M 20 s) (h.2.1 s hs).2.2.2.2.1 fl
  generalize (if gI M 20 s = -1 then nI m else gI M 20 s) = F at hF ⊢
  refine ⟨?_, fun i hi => ?_, fun i hi => ?_, fun i hi j hj => ?_⟩
  · rw [e8]
    rw [pdS_s, pdS_cong _ e9, e9n.2.2.2]
    unfold tr9
    refine ⟨?_, ?_⟩
    · rw [gI_sI, if_neg (by omega), gI_sI, if_pos ⟨rfl, rfl⟩]
    · rw [gI_sI, if_pos ⟨rfl, rfl⟩]
  · have c := h.2.1 i hi
    have c' := h.2.1 s hs
    rw [e8]
    rw [tkS_s, ctS_s, fsS_s, tkS_cong _ e9, ctS_cong _ e9, fsS_cong _ e9, e9n.1, e9n.2.1, e9n.2.2.2]
    refine ⟨?_, fun q5 => ?_, ?_, ?_, ?_, ?_, ?_⟩
    · rw [tr9_g _ _ (by omega), se6_g _ _ (by omega)]
      by_cases e : i = s
      · subst e
        unfold se5
        rw [gI_sI, if_neg (by omega), gI_sI, if_neg (by omega), gI_sI, if_neg (by omega), gI_sI, if_neg (by omega), gI_sI, if_pos ⟨rfl, rfl⟩]
        simp [slS]
      · rw [se5_g _ _ (by omega), c.1]
        simp [slS, e]
    · rw [tr9_g _ _ (by omega), se6_g _ _ (by omega), se5_g _ _ (by omega), c.2.1 q5]
      simp [slS]
    · by_cases e : i = s
      · subst e
        unfold tr9
        rw [if_pos rfl, gI_sI, if_neg (by omega), gI_sI, if_neg (by omega), gI_sI, if_neg (by omega), gI_sI, if_neg (by omega), gI_sI, if_neg (by omega), gI_sI, if_neg (by omega), gI_sI, if_neg (by omega), gI_sI, if_neg (by omega), gI_sI, if_neg (by omega), gI_sI, if_pos ⟨rfl, rfl⟩]
      · rw [if_neg (fun z => e z.symm), tr9_g _ _ (by omega), se6_g _ _ (by omega), se5_g _ _ (by omega), c.2.2.1]
        rfl
    · by_cases e : i = s
      · subst e
        unfold tr9
        rw [if_pos rfl, gI_sI, if_neg (by omega), gI_sI, if_neg (by omega), gI_sI, if_neg (by omega), gI_sI, if_neg (by omega), gI_sI, if_neg (by omega), gI_sI, if_neg (by omega), gI_sI, if_neg (by omega), gI_sI, if_neg (by omega), gI_sI, if_pos ⟨rfl, rfl⟩]
      · rw [if_neg (fun z => e z.symm), tr9_g _ _ (by omega), se6_g _ _ (by omega), se5_g _ _ (by omega), c.2.2.2.1]
        rfl
    · by_cases e : i = s
      · subst e
        rw [if_pos (rfl : i = i), ← hF]
        unfold tr9
        rw [gI_sI, if_neg (by omega), gI_sI, if_neg (by omega), gI_sI, if_neg (by omega), gI_sI, if_neg (by omega), gI_sI, if_neg (by omega), gI_sI, if_neg (by omega), gI_sI, if_neg (by omega), gI_sI, if_pos ⟨rfl, rfl⟩]
      · have es : ¬ s = i := fun z => e z.symm
        have e1 : (if fsS H i (H 8 0 0) = 0 then if s = i then m + 1 else 0 else fsS H i (H 8 0 0)) = fsS H i (H 8 0 0) := by
          rw [if_neg es]
          split
          · rename_i z
            exact z.symm
          · rfl
        rw [e1, tr9_g _ _ (by omega), se6_g _ _ (by omega), se5_g _ _ (by omega), c.2.2.2.2.1]
    · by_cases e : i = s
      · subst e
        unfold tr9
        rw [gI_sI, if_neg (by omega), gI_sI, if_neg (by omega), gI_sI, if_neg (by omega), gI_sI, if_neg (by omega), gI_sI, if_neg (by omega), gI_sI, if_neg (by omega), gI_sI, if_pos ⟨rfl, rfl⟩]
        simp [slS]
        rfl
      · rw [tr9_g _ _ (by omega), se6_g _ _ (by omega), se5_g _ _ (by omega), c.2.2.2.2.2.1]
        simp [slS, e]
    · rw [tr9_g _ _ (by omega), se6_g _ _ (by omega), se5_g _ _ (by omega), c.2.2.2.2.2.2]
      simp [slS]
  · have c := h.2.2.1 i hi
    rw [e8]
    rw [gtS_s, gtS_cong _ e9, e9n.2.2.1]
    refine ⟨?_, ?_, ?_, fun v hv => ?_, fun j hj => ?_⟩
    · rw [tr9_g _ _ (by omega), se6_g _ _ (by omega)]
      by_cases e : i = b
      · subst e
        unfold se5
        rw [gI_sI, if_neg (by omega), gI_sI, if_neg (by omega), gI_sI, if_pos ⟨rfl, rfl⟩]
        simp [slS]
      · rw [se5_g _ _ (by omega), c.1]
        simp [slS, e]
    · rw [tr9_g _ _ (by omega), se6_g _ _ (by omega)]
      by_cases e : i = b
      · subst e
        unfold se5
        rw [if_pos rfl, gI_sI, if_neg (by omega), gI_sI, if_pos ⟨rfl, rfl⟩]
      · rw [if_neg (fun z => e z.symm), se5_g _ _ (by omega), c.2.1]
        rfl
    · rw [tr9_g _ _ (by omega)]
      by_cases e : i = b
      · subst e
        have e7 : slS D H m s i w 7 i 0 = if lkS (slL H i w) i (kBy D i 3) = 0 then m + 1 else H 7 i 0 := by simp [slS]
        rw [e7]
        unfold se6
        by_cases z : lkS (slL H i w) i (kBy D i 3) = 0
        · rw [if_pos z, if_pos (by simp [z]), gI_sI, if_pos ⟨rfl, rfl⟩, if_neg (by omega)]
          rfl
        · rw [if_neg z, if_neg (by simp [z]), se5_g _ _ (by omega), c.2.2.1]
      · rw [se6_g _ _ (by omega), se5_g _ _ (by omega), c.2.2.1]
        simp [slS, e]
    · rw [tr9_g _ _ (by omega), se6_g _ _ (by omega)]
      by_cases e : i = b ∧ v = w
      · obtain ⟨rfl, rfl⟩ := e
        unfold se5
        rw [gI_sI, if_neg (by omega), gI_sI, if_neg (by omega), gI_sI, if_neg (by omega), gI_sI, if_pos ⟨rfl, rfl⟩, if_pos hw]
        simp [slS]
      · rw [se5_g _ _ (by omega), c.2.2.2.1 v hv]
        have : slS D H m s b w 5 i v = H 5 i v := by simp [slS, e]
        rw [this]
    · rw [tr9_g _ _ (by omega), se6_g _ _ (by omega)]
      by_cases e : i = b ∧ j = m
      · obtain ⟨rfl, rfl⟩ := e
        unfold se5
        rw [gI_sI, if_pos ⟨rfl, rfl⟩]
        simp [slS]
        rfl
      · rw [se5_g _ _ (by omega), c.2.2.2.2 j hj]
        have : slS D H m s b w 13 i j = H 13 i j := by simp [slS, e]
        rw [this]
  · rw [e8] at hi
    by_cases e : i = H 8 0 0
    · subst e
      have hc : j = 0 ∨ j = 1 ∨ j = 2 ∨ j = 3 := by omega
      unfold tr9
      rw [gI_sI, if_neg (by omega), gI_sI, if_neg (by omega)]
      rcases hc with rfl | rfl | rfl | rfl
      · rw [e9n.1, gI_sI, if_neg (by omega), gI_sI, if_neg (by omega), gI_sI, if_neg (by omega), gI_sI, if_pos ⟨rfl, rfl⟩]
      · rw [e9n.2.1, gI_sI, if_neg (by omega), gI_sI, if_neg (by omega), gI_sI, if_pos ⟨rfl, rfl⟩]
      · rw [e9n.2.2.1, gI_sI, if_neg (by omega), gI_sI, if_pos ⟨rfl, rfl⟩]
      · rw [e9n.2.2.2, gI_sI, if_pos ⟨rfl, rfl⟩]
    · rw [tr9_g _ _ (by omega), se6_g _ _ (by omega), se5_g _ _ (by omega), h.2.2.2 i (by omega) j hj, e9 i (by omega)]
