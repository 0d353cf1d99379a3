/-! HOW RINGS TURN -/
/-- M' differs from M in ints of the cells of S alone -/
def Only (S : Nat → Prop) (M M' : Mem) : Prop := M'.2 = M.2 ∧ ∀ a, ¬ S a → ∀ k, gI M' a k = gI M a k
theorem Only.rf {S : Nat → Prop} {M : Mem} : Only S M M := ⟨rfl, fun _ _ _ => rfl⟩
theorem Only.tr {S : Nat → Prop} {M M' M'' : Mem} (h : Only S M M') (h' : Only S M' M'') : Only S M M'' := ⟨h'.1.trans h.1, fun a ha k => (h'.2 a ha k).trans (h.2 a ha k)⟩
theorem Only.mono {S T : Nat → Prop} {M M' : Mem} (h : Only S M M') (hs : ∀ a, S a → T a) : Only T M M' := ⟨h.1, fun a ha k => h.2 a (fun z => ha (hs a z)) k⟩
theorem Only.I {S : Nat → Prop} {M M' : Mem} {a k : Nat} {v : Int32} (h : Only S M M') (ha : S a) : Only S M (sI M' a k v) := ⟨h.1, fun b hb j => by
  rw [gI_sI, if_neg (fun z => hb (by rw [z.1]; exact ha))]
  exact h.2 b hb j⟩
theorem Only.gL {S : Nat → Prop} {M M' : Mem} (h : Only S M M') (a k : Nat) : gL M' a k = gL M a k := by
  show M'.2.1 a k = M.2.1 a k
  rw [h.1]
theorem Only.gR {S : Nat → Prop} {M M' : Mem} (h : Only S M M') (a k : Nat) : gR M' a k = gR M a k := by
  show M'.2.2 a k = M.2.2 a k
  rw [h.1]
theorem Only.CR {S : Nat → Prop} {M M' : Mem} (h : Only S M M') (hc : CR M) : CR M' := fun a k q => (h.gR a k).trans (hc a k q)
theorem Only.RR {S : Nat → Prop} {M M' : Mem} (h : Only S M M') (hc : RR M) : RR M' := fun a k => (h.gR a k).trans (hc a k)
theorem cmp_0 (y : Int64) : lg_cmp y 0 = 0 ↔ y = 0 := by
  unfold lg_cmp
  by_cases h : y > 0
  · rw [if_pos h]
    constructor
    · intro z; exact absurd z (by decide)
    · intro z; subst z; exact (Int64.lt_irrefl h).elim
  · rw [if_neg h]
    by_cases h2 : y = 0
    · rw [if_pos h2]; exact ⟨fun _ => h2, fun _ => rfl⟩
    · rw [if_neg h2]; exact ⟨fun z => absurd z (by decide), fun z => absurd z h2⟩
theorem shr_amt : ∀ m, m < 64 → (((nI m).toInt64 &&& 63).toBitVec.smod 64).toNat = m := by decide +kernel
theorem bit_shr (x : Int64) {m : Nat} (hm : m < 64) : (x >>> ((nI m).toInt64 &&& 63)).toBitVec.getLsbD 0 = x.toBitVec.getLsbD m := by
  rw [Int64.toBitVec_shiftRight, BitVec.sshiftRight', BitVec.getLsbD_sshiftRight]
  have := shr_amt m hm
  simp only [Nat.add_zero] at *
  rw [this]
  simp [hm]
theorem and_1 (x : Int64) : x &&& 1 = 0 ↔ x.toBitVec.getLsbD 0 = false := by
  have e : (x &&& 1 = 0) ↔ (x.toBitVec &&& 1#64 = 0#64) := by
    rw [← Int64.toBitVec_inj, Int64.toBitVec_and]
    rfl
  rw [e]
  constructor
  · intro h
    have h2 := congrArg (fun z => z.getLsbD 0) h
    simpa using h2
  · intro h
    apply BitVec.eq_of_getLsbD_eq
    intro i hi
    by_cases h0 : i = 0
    · subst h0
      simpa using h
    · simp [h0]
theorem bit_cmp (x : Int64) {m : Nat} (hm : m < 64) : lg_cmp ((x >>> ((nI m).toInt64 &&& 63)) &&& 1) 0 = 0 ↔ bitL x m = false := by
  rw [cmp_0, and_1, bit_shr x hm]
  rfl
/-- turns done, and minutes passed in the turn that goes on, ahead of a minute -/
def kTr (D : MK) (r : Nat) : Nat → Nat × Nat
  | 0 => (0, 0)
  | m + 1 => if kSt D r m = 1 then kTr D r m else if 0 < kRg D r 0 ∧ (kTr D r m).2 = kRg D r 0 then ((kTr D r m).1 + 1, 1) else ((kTr D r m).1, (kTr D r m).2 + 1)
def kTn (D : MK) (r m : Nat) : Nat := (kTr D r (m + 1)).1
theorem kTr_le (D : MK) (r : Nat) : ∀ m, (kTr D r m).1 ≤ m ∧ (kTr D r m).2 ≤ m
  | 0 => ⟨Nat.le_refl _, Nat.le_refl _⟩
  | m + 1 => by
    have := kTr_le D r m
    unfold kTr
    split
    · omega
    · split
      · show (kTr D r m).1 + 1 ≤ m + 1 ∧ 1 ≤ m + 1
        omega
      · show (kTr D r m).1 ≤ m + 1 ∧ (kTr D r m).2 + 1 ≤ m + 1
        omega
theorem turn_loop {M : Mem} {q t : Nat} {D : MK} {r Mi : Nat} (hMi : Mi ≤ 60) (ho : oB shC q 7 = true) (ht : shC t = (100, 60)) (hqt : q ≠ t) (hT : kRg D r 0 ≤ 60) (hq : gI M q 0 = nI (kRg D r 0)) (hst : ∀ m, m < 64 → bitL (gL M q 2) m = (kSt D r m == 1)) :
    ∀ n m M', m ≤ Mi → Mi < n + m → Only (· = t) M M' → (∀ i, i < m → gI M' t i = nI (kTn D r i)) → ∃ M'', f_X2_turnRing_8 n M' q t (nI Mi) (nI (kTr D r m).1) (nI (kTr D r m).2) (nI m) = some M'' ∧ Only (· = t) M M'' ∧ ∀ i, i < Mi → gI M'' t i = nI (kTn D r i) := by
  intro n
  induction n with
  | zero => intro m M' h1 h2; omega
  | succ n ih =>
    intro m M' h1 h2 hO hi
    show ∃ M'', s_X2_turnRing_8 (f_X2_turnRing_8 n) M' q t (nI Mi) (nI (kTr D r m).1) (nI (kTr D r m).2) (nI m) = some M'' ∧ _
    unfold s_X2_turnRing_8
    by_cases hm : m = Mi
    · subst hm
      rw [if_pos (nI_le (Nat.le_refl _) (by omega))]
      exact ⟨M', rfl, hO, hi⟩
    have hlt : m < Mi := by omega
    rw [if_neg (nI_ge hlt (by omega)), ho, gd_t, nx_t, hO.gL, hO.2 q hqt]
    -- what is written at the end, whatever was done
    have fin : ∀ x4 : Nat, kTr D r (m + 1) = (kTn D r m, x4) → ∃ M'', f_X2_turnRing_53 (f_X2_turnRing_8 n) M' q t (nI Mi) (nI (kTn D r m)) (nI x4) (nI m) = some M'' ∧ Only (· = t) M M'' ∧ ∀ i, i < Mi → gI M'' t i = nI (kTn D r i) := by
      intro x4 e
      unfold f_X2_turnRing_53
      rw [aB_t m ht rfl (by omega) (by decide), gd_t, nx_t, nI_1, nI_clamp (by omega)]
      have := ih (m + 1) (sI M' t m (nI (kTn D r m))) (by omega) (by omega) (hO.I rfl) (fun i hi' => by
        rw [gI_sI]
        by_cases h : i = m
        · subst h; rw [if_pos ⟨rfl, rfl⟩]
        · rw [if_neg (fun z => h z.2)]; exact hi i (by omega))
      rw [e] at this
      exact this
    have hle := kTr_le D r m
    by_cases hs : kSt D r m = 1
    · have hb : ¬ lg_cmp ((gL M q 2 >>> ((nI m).toInt64 &&& 63)) &&& 1) 0 = 0 := by
        rw [bit_cmp _ (by omega), hst m (by omega), hs]
        decide
      rw [if_neg hb]
      have e : kTr D r (m + 1) = kTr D r m := by rw [kTr, if_pos hs]
      have e2 : kTn D r m = (kTr D r m).1 := by unfold kTn; rw [e]
      rw [← e2]
      exact fin _ (by rw [e, e2])
    · have hb : lg_cmp ((gL M q 2 >>> ((nI m).toInt64 &&& 63)) &&& 1) 0 = 0 := by
        rw [bit_cmp _ (by omega), hst m (by omega)]
        simpa using hs
      rw [if_pos hb, hq]
      unfold f_X2_turnRing_50
      by_cases h0 : kRg D r 0 = 0
      · have e : kTr D r (m + 1) = ((kTr D r m).1, (kTr D r m).2 + 1) := by rw [kTr, if_neg hs, if_neg (fun z => by omega)]
        have e2 : kTn D r m = (kTr D r m).1 := by unfold kTn; rw [e]
        rw [if_pos (show nI (kRg D r 0) ≤ 0 by rw [h0]; decide), nI_1, ← e2]
        exact fin _ (by rw [e, e2])
      · rw [if_neg (nI_nle (n := kRg D r 0) (by omega) (by omega))]
        by_cases h3 : (kTr D r m).2 = kRg D r 0
        · have e : kTr D r (m + 1) = ((kTr D r m).1 + 1, 1) := by rw [kTr, if_neg hs, if_pos ⟨by omega, h3⟩]
          have e2 : kTn D r m = (kTr D r m).1 + 1 := by unfold kTn; rw [e]
          rw [if_pos (by rw [h3]), nI_1, ← e2, show (0 : Int32) + 1 = nI 1 from rfl]
          exact fin 1 (by rw [e, e2])
        · have e : kTr D r (m + 1) = ((kTr D r m).1, (kTr D r m).2 + 1) := by rw [kTr, if_neg hs, if_neg (fun z => h3 z.2)]
          have e2 : kTn D r m = (kTr D r m).1 := by unfold kTn; rw [e]
          rw [if_neg (fun z => h3 ((nI_eq (by omega) (by omega)).mp z)), nI_1, ← e2]
          exact fin _ (by rw [e, e2])
