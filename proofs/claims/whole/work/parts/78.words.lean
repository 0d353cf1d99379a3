/-! WORDS AND NUMBERS, both readers side by side -/
def bI (b : Bool) : Int32 := match b with | true => 1 | false => 0
theorem bI_t : bI true = 1 := rfl
theorem bI_f : bI false = 0 := rfl
def SN (i j : Nat) : Nat := ((SBYT.getD i []).getD j 0).toNatClampNeg
def sln (i : Nat) : Nat := (SBYT.getD i []).length
theorem sLen_n (i : Nat) : sLen i = nI (sln i) := rfl
theorem SN_ok : ∀ i, i < 26 → (sln i ≤ 8 ∧ 0 < sln i) ∧ ∀ j, j < sln i → 97 ≤ SN i j ∧ SN i j ≤ 122 ∧ sChr i (nI j) = nI (SN i j) := by decide +kernel
def hE (i : Nat) : Nat → Nat
  | 0 => 0
  | n + 1 => 27 * hE i n + (SN i n - 96)
/-- the number of a text -/
def wT (i : Nat) : Int64 := lN (hE i (sln i))
theorem wT_c : wT 0 = 361240 ∧ wT 1 = 10492104 ∧ wT 2 = 1494603 ∧ wT 3 = 12253591 ∧ wT 4 = 10506440 ∧ wT 5 = 187429700 ∧ wT 6 = 235981828 ∧ wT 7 = 5173474771 ∧ wT 8 = 11055682 ∧ wT 9 = 99677 ∧ wT 10 = 456887 ∧ wT 11 = 47 ∧ wT 12 = 10204885 ∧ wT 13 = 234466237 ∧ wT 14 = 8863997 ∧ wT 15 = 3383428 ∧ wT 16 = 3217420 ∧ wT 17 = 174877291 ∧ wT 18 = 1896526 ∧ wT 19 = 4272932 ∧ wT 20 = 2682144 ∧ wT 21 = 7872949060 ∧ wT 22 = 383153 ∧ wT 23 = 6564179 ∧ wT 24 = 131638 ∧ wT 25 = 555 := by decide +kernel
section WD
variable {B : Nat → Int32} {a : Nat}
theorem hash_iff {i : Nat} : ∀ n m, (∀ j, j < n → isLt (B (a + j))) → (∀ j, j < m → 97 ≤ SN i j ∧ SN i j ≤ 122) → (hN B a n = hE i m ↔ n = m ∧ ∀ j, j < m → B (a + j) = nI (SN i j))
  | 0, 0, _, _ => ⟨fun _ => ⟨rfl, fun j hj => by omega⟩, fun _ => rfl⟩
  | 0, m + 1, _, h => by
    have := h m (by omega)
    refine ⟨fun z => ?_, fun z => by omega⟩
    have z : 0 = 27 * hE i m + (SN i m - 96) := z
    omega
  | n + 1, 0, h, _ => by
    obtain ⟨c, c1, c2, e⟩ := rng_c (l := 97) (h := 122) rfl rfl (by decide) (by decide) (h n (by omega))
    refine ⟨fun z => ?_, fun z => by omega⟩
    have z : 27 * hN B a n + ((B (a + n)).toNatClampNeg - 96) = 0 := z
    rw [e, nI_clamp (by omega)] at z
    omega
  | n + 1, m + 1, h, h' => by
    obtain ⟨c, c1, c2, e⟩ := rng_c (l := 97) (h := 122) rfl rfl (by decide) (by decide) (h n (by omega))
    have hm := h' m (by omega)
    have ih := hash_iff n m (fun j hj => h j (by omega)) (fun j hj => h' j (by omega))
    have e1 : hN B a (n + 1) = 27 * hN B a n + (c - 96) := by
      show 27 * hN B a n + ((B (a + n)).toNatClampNeg - 96) = _
      rw [e, nI_clamp (by omega)]
    rw [e1, show hE i (m + 1) = 27 * hE i m + (SN i m - 96) from rfl]
    constructor
    · intro z
      have z1 : hN B a n = hE i m := by omega
      have z2 : c = SN i m := by omega
      obtain ⟨y1, y2⟩ := ih.mp z1
      refine ⟨by omega, fun j hj => ?_⟩
      by_cases q : j = m
      · rw [q, ← y1, e, z2, y1]
      · exact y2 j (by omega)
    · rintro ⟨z1, z2⟩
      have z3 : n = m := by omega
      have z4 := z2 m (by omega)
      rw [← z3, e] at z4
      have z5 := (nI_eq (by omega) (by rw [z3]; omega)).mp z4
      have z6 := ih.mpr ⟨z3, fun j hj => z2 j (by omega)⟩
      rw [z3] at z5
      rw [z6, z5]
theorem hN_lt : ∀ n, (∀ j, j < n → isLt (B (a + j))) → hN B a n < 27 ^ n
  | 0, _ => Nat.one_pos
  | n + 1, h => by
    obtain ⟨c, c1, c2, e⟩ := rng_c (l := 97) (h := 122) rfl rfl (by decide) (by decide) (h n (by omega))
    have ih := hN_lt n (fun j hj => h j (by omega))
    show 27 * hN B a n + ((B (a + n)).toNatClampNeg - 96) < 27 ^ (n + 1)
    rw [e, nI_clamp (by omega), Nat.pow_succ]
    omega
theorem hE_lt : ∀ i, i < 26 → hE i (sln i) < 2 ^ 63 := by decide +kernel
theorem lN_inj {x y : Nat} (hx : x < 2 ^ 64) (hy : y < 2 ^ 64) (h : lN x = lN y) : x = y := by
  have := congrArg (fun z : Int64 => z.toBitVec.toNat) h
  simp only [wb_tn hx, wb_tn hy] at this
  exact this
theorem word_iff {i n : Nat} (hi : i < 26) (h : ∀ j, j < n → isLt (B (a + j))) : wH B a n = wT i ↔ n = sln i ∧ ∀ j, j < sln i → B (a + j) = nI (SN i j) := by
  have hs := SN_ok i hi
  have he := hE_lt i hi
  unfold wH wT
  by_cases c : n ≤ 12
  · rw [if_pos c, ← hash_iff n (sln i) h (fun j hj => ⟨(hs.2 j hj).1, (hs.2 j hj).2.1⟩)]
    have h1 := hN_lt n h
    have h2 : 27 ^ n ≤ 27 ^ 12 := Nat.pow_le_pow_right (by decide) c
    exact ⟨fun z => lN_inj (by omega) (by omega) z, fun z => by rw [z]⟩
  · rw [if_neg c]
    refine ⟨fun z => ?_, fun z => by omega⟩
    have z2 : lN (2 ^ 64 - 1) = lN (hE i (sln i)) := z
    have := lN_inj (by decide) (by omega) z2
    omega
end WD
theorem cmp_eq (x y : Int64) : lg_cmp x y = 0 ↔ x = y := by
  unfold lg_cmp
  by_cases h : x > y
  · rw [if_pos h]
    constructor
    · intro z; exact absurd z (by decide)
    · intro z; subst z; exact (Int64.lt_irrefl h).elim
  · rw [if_neg h]
    by_cases h2 : x = y
    · rw [if_pos h2]; exact ⟨fun _ => h2, fun _ => rfl⟩
    · rw [if_neg h2]; exact ⟨fun z => absurd z (by decide), fun z => absurd z h2⟩
section PR
variable {L : Nat} {B : Nat → Int32} {M1 M2 M1' M2' : Mem}
theorem isWord_both {a e t i : Nat} (hi : i < 26) (hT : TP M1 M2 L B) (hK : TokR B L M1 M2 a e t) : ∃ b : Bool, f_X6_isWord M1 1 i = some (bI b) ∧ (gI M2 0 12 = 0 → f_X11_is M2 0 (wT i) = some (bI b)) ∧ (b = true → t = 1) := by
  obtain ⟨k1, k2, k3, k4, k5, k6, k7, k8, k9, k10, k11, k12⟩ := hK
  have hL := hT.2.2.1
  have hs := SN_ok i hi
  have oi : sB i = true := decide_eq_true hi
  unfold f_X6_isWord f_X11_is
  rw [oC_1, gd_t, k7, k8, oR, gd_t]
  by_cases c1 : t = 1
  case' neg =>
    refine ⟨false, ?_, fun g => ?_, fun z => by cases z⟩
    · rw [if_neg (nI_neL (x := 1) 1 rfl c1 (by omega) (by decide))]
      rfl
    · rw [if_pos g, if_neg (nI_neL (x := 1) 1 rfl c1 (by omega) (by decide))]
      rfl
  obtain ⟨l1, l2⟩ := k11 c1
  have hlt : ∀ j, j < e - a → isLt (B (a + j)) := fun j hj => l1 (a + j) (by omega) (by omega)
  have hw := word_iff hi hlt
  rw [if_pos (show nI t = 1 by rw [c1]; rfl), oi, gd_t, k5, k3, pk_sub k1, sLen_n]
  have href : gI M2 0 12 = 0 → ∀ b : Bool, (b = true ↔ wH B a (e - a) = wT i) → (if gI M2 0 12 = 0 then if nI t = 1 then if lg_cmp (gL M2 0 11) (wT i) = 0 then some 1 else some 0 else some 0 else some 0) = some (bI b) := fun g b hb => by
    rw [if_pos g, if_pos (show nI t = 1 by rw [c1]; rfl), l2]
    by_cases q : wH B a (e - a) = wT i
    · rw [if_pos ((cmp_eq _ _).mpr q), hb.mpr q]
      rfl
    · rw [if_neg (fun z => q ((cmp_eq _ _).mp z))]
      cases b with
      | true => exact absurd (hb.mp rfl) q
      | false => rfl
  by_cases c2 : e - a = sln i
  case' neg =>
    refine ⟨false, ?_, fun g => href g false ⟨fun z => (by cases z), fun z => absurd (hw.mp z).1 c2⟩, fun _ => c1⟩
    rw [if_neg (fun z => c2 ((nI_eq (by omega) (by omega)).mp z))]
    rfl
  rw [if_pos (by rw [c2])]
  have key : ∀ n k, k ≤ sln i → sln i < n + k → (∀ j, j < k → B (a + j) = nI (SN i j)) → ∃ b : Bool, f_X6_isWord_28 M1 n 1 i (nI k) = some (bI b) ∧ (b = true ↔ ∀ j, j < sln i → B (a + j) = nI (SN i j)) := by
    intro n
    induction n with
    | zero => intro k h1 h2; omega
    | succ n ih =>
      intro k h1 h2 hz
      show ∃ b, s_X6_isWord_28 M1 (f_X6_isWord_28 M1 n) 1 i (nI k) = some (bI b) ∧ _
      unfold s_X6_isWord_28
      rw [oi, gd_t, sLen_n]
      by_cases q : k = sln i
      · subst q
        rw [if_pos (nI_le (Nat.le_refl _) (by omega))]
        exact ⟨true, rfl, fun _ => hz, fun _ => rfl⟩
      have hk : k < sln i := by omega
      rw [if_neg (nI_ge hk (by omega)), oC_1, gd_t, cr_1_0 hT.1, bd_t, k3, nI_add, aB_t (a + k) zC_2 rfl (by omega) (by decide), gd_t, nx_t, nI_clamp (by omega), hT.2.2.2.2.2.1 (a + k) (by omega), show inb (nI k) (SBYT.getD i []).length = true from inb_k rfl hk (show sln i < 2 ^ 31 by omega), gd_t, (hs.2 k hk).2.2, nI_1]
      by_cases q2 : B (a + k) = nI (SN i k)
      · rw [if_pos q2]
        exact ih (k + 1) (by omega) (by omega) (fun j hj => by
          by_cases q3 : j = k
          · rw [q3]; exact q2
          · exact hz j (by omega))
      · rw [if_neg q2]
        exact ⟨false, rfl, fun z => (by cases z), fun z => absurd (z k hk) q2⟩
  obtain ⟨b, b1, b2⟩ := key FU 0 (by omega) (by unfold FU; omega) (fun j hj => by omega)
  refine ⟨b, b1, fun g => href g b ?_, fun _ => c1⟩
  rw [b2, hw]
  exact ⟨fun z => ⟨c2, z⟩, fun z => z.2⟩
/-! the state of reading: all well so far (the token is at n or behind it), or a fault -/
def kC (k : Nat) : Prop := 2 ≤ k ∧ k ≤ 7
def kN (k : Nat) : Prop := 7 ≤ k ∧ k ≤ 13
theorem tkC_k {k : Nat} (h : tkC k) : kC k := by unfold tkC at h; unfold kC; omega
theorem tkR_k {k : Nat} (h : tkR k) : kN k := by unfold tkR at h; unfold kN; omega
def PG (L : Nat) (B : Nat → Int32) (M1 M2 : Mem) (a e t : Nat) : Prop := TP M1 M2 L B ∧ TokR B L M1 M2 a e t ∧ gI M1 1 2 = 0 ∧ gI M2 0 12 = 0 ∧ gI M1 1 3 = -1
/-- a fault, told by both; the class reads on (so would the reference with the memory Z) -/
def PB (L : Nat) (B : Nat → Int32) (M1 M2 : Mem) : Prop := TP M1 M2 L B ∧ (∃ k pl : Nat, 1 ≤ k ∧ k ≤ 3 ∧ pl ≤ 2000 ∧ gI M1 1 2 = nI k ∧ gI M2 0 12 = nI k ∧ gI M1 1 3 = nI pl ∧ gI M2 0 13 = nI pl) ∧ ∃ Z a e t, TP M1 Z L B ∧ TokR B L M1 Z a e t
def St (L : Nat) (B : Nat → Int32) (n : Nat) (M1 M2 : Mem) : Prop := (∃ a e t, n ≤ a ∧ PG L B M1 M2 a e t) ∨ PB L B M1 M2
theorem PB.c (h : PB L B M1 M2) : ¬ gI M1 1 2 = 0 := by
  obtain ⟨-, ⟨k, pl, h1, h2, -, h3, -⟩, -⟩ := h
  rw [h3]
  exact nI_ne0 (by omega) (by omega)
theorem PB.n (h : PB L B M1 M2) : ¬ gI M2 0 12 = 0 := by
  obtain ⟨-, ⟨k, pl, h1, h2, -, -, h3, -⟩, -⟩ := h
  rw [h3]
  exact nI_ne0 (by omega) (by omega)
/-- the class goes on to the next token behind a fault -/
theorem PB.next (h : PB L B M1 M2) : ∃ M1', f_X6_next M1 1 = some M1' ∧ OnT kC M1 M1' ∧ PB L B M1' M2 := by
  obtain ⟨hT, ⟨k, pl, h1, h2, h3, h4, h5, h6, h7⟩, Z, a, e, t, z1, z2⟩ := h
  obtain ⟨M1', Z', a', e', t', q1, q2, q3, q4, q5, q6⟩ := next_both z1 z2.2.1 z2.2.2.2.2.1 z2.2.2.2.2.2.1
  refine ⟨M1', q1, q3.mono (fun _ => tkC_k), hT.c q3 (by unfold tkC; omega), ⟨k, pl, h1, h2, h3, ?_, h5, ?_, h7⟩, Z', a', e', t', (z1.c q3 (by unfold tkC; omega)).n q4 (by unfold tkR; omega), q6⟩
  · rw [q3.2 _ _ (by unfold tkC; omega)]; exact h4
  · rw [q3.2 _ _ (by unfold tkC; omega)]; exact h6
theorem PG.next {a e t : Nat} (h : PG L B M1 M2 a e t) : ∃ M1' M2' a' e' t', f_X6_next M1 1 = some M1' ∧ f_X11_next M2 0 = some M2' ∧ OnT tkC M1 M1' ∧ OnN tkR M2 M2' ∧ e ≤ a' ∧ PG L B M1' M2' a' e' t' := by
  obtain ⟨hT, hK, h1, h2, h3⟩ := h
  obtain ⟨M1', M2', a', e', t', q1, q2, q3, q4, q5, q6⟩ := next_both hT hK.2.1 hK.2.2.2.2.1 hK.2.2.2.2.2.1
  refine ⟨M1', M2', a', e', t', q1, q2, q3, q4, q5, (hT.c q3 (by unfold tkC; omega)).n q4 (by unfold tkR; omega), q6, ?_, ?_, ?_⟩
  · rw [q3.2 _ _ (by unfold tkC; omega)]; exact h1
  · rw [q4.2.1 _ _ (by unfold tkR; omega)]; exact h2
  · rw [q3.2 _ _ (by unfold tkC; omega)]; exact h3
theorem PG.fail {a e t k : Nat} (h : PG L B M1 M2 a e t) (h1 : 1 ≤ k) (h3 : k ≤ 3) : ∃ M1' M2', f_X6_refuse M1 1 (nI k) = some M1' ∧ f_X11_fails M2 0 (nI k) = some M2' ∧ OnT kC M1 M1' ∧ OnN kN M2 M2' ∧ PB L B M1' M2' := by
  obtain ⟨hT, hK, g1, g2, g3⟩ := h
  have hL := hT.2.2.1
  have o1 : OnT kC M1 (sI (sI M1 1 2 (nI k)) 1 3 (nI a)) := (OnT.rf.I (by unfold kC; omega)).I (by unfold kC; omega)
  have o2 : OnN kN M2 (sI (sI M2 0 12 (nI k)) 0 13 (nI a)) := (OnN.rf.I (by unfold kN; omega)).I (by unfold kN; omega)
  have oc : OnT (fun j => j = 2 ∨ j = 3) M1 (sI (sI M1 1 2 (nI k)) 1 3 (nI a)) := (OnT.rf.I (Or.inl rfl)).I (Or.inr rfl)
  refine ⟨_, _, ?_, ?_, o1, o2, (hT.c o1 (by unfold kC; omega)).n o2 (by unfold kN; omega), ⟨k, a, h1, h3, by have := hK.1; have := hK.2.1; omega, ?_, ?_, ?_, ?_⟩, M2, a, e, t, hT.c o1 (by unfold kC; omega), ?_⟩
  · unfold f_X6_refuse
    rw [oC_1, gd_t, if_pos g1, nx_t, nx_t, gI_sI, if_neg (by omega), hK.2.2.1]
  · unfold f_X11_fails
    rw [oR, gd_t, if_pos g2, nx_t, nx_t, gI_sI, if_neg (by omega), hK.2.2.2.1]
  · rw [gI_sI, if_neg (by omega), gI_sI, if_pos ⟨rfl, rfl⟩]
  · rw [gI_sI, if_neg (by omega), gI_sI, if_pos ⟨rfl, rfl⟩]
  · rw [gI_sI, if_pos ⟨rfl, rfl⟩]
  · rw [gI_sI, if_pos ⟨rfl, rfl⟩]
  · unfold TokR
    rw [oc.2 1 4 (by omega), oc.2 1 5 (by omega), oc.2 1 6 (by omega), oc.2 1 7 (by omega)]
    exact hK
theorem PB.refuse (h : PB L B M1 M2) (x : Int32) : f_X6_refuse M1 1 x = some M1 := by
  unfold f_X6_refuse
  rw [oC_1, gd_t, if_neg h.c]
theorem PB.fails (h : PB L B M1 M2) (x : Int32) : f_X11_fails M2 0 x = some M2 := by
  unfold f_X11_fails
  rw [oR, gd_t, if_neg h.n]
theorem PB.isWord (h : PB L B M1 M2) {i : Nat} (hi : i < 26) : ∃ b : Bool, f_X6_isWord M1 1 i = some (bI b) := by
  obtain ⟨-, -, Z, a, e, t, z1, z2⟩ := h
  obtain ⟨b, b1, -⟩ := isWord_both hi z1 z2
  exact ⟨b, b1⟩
theorem PB.is (h : PB L B M1 M2) (w : Int64) : f_X11_is M2 0 w = some 0 := by
  unfold f_X11_is
  rw [oR, gd_t, if_neg h.n]
theorem word_st {n i : Nat} (hi : i < 26) (h : St L B n M1 M2) : ∃ M1' M2', f_X6_word M1 1 i = some M1' ∧ f_X11_asks M2 0 (wT i) = some M2' ∧ OnT kC M1 M1' ∧ OnN kN M2 M2' ∧ St L B n M1' M2' := by
  unfold f_X6_word f_X11_asks f_X11_takes
  rw [oC_1, gd_t, oR, gd_t, gd_t]
  rcases h with ⟨a, e, t, ha, hG⟩ | hB
  · obtain ⟨b, b1, b2, b3⟩ := isWord_both hi hG.1 hG.2.1
    rw [b1, bd_t, b2 hG.2.2.2.1, bd_t]
    cases b with
    | true =>
      obtain ⟨M1', M2', a', e', t', q1, q2, q3, q4, q5, q6⟩ := hG.next
      rw [bI_t, if_neg (show ¬ (1 : Int32) = 0 by decide), if_neg (show ¬ (1 : Int32) = 0 by decide), q1, bd_t, q2, bd_t, bd_t]
      dsimp only
      rw [if_neg (show ¬ (1 : Int32) = 0 by decide)]
      exact ⟨M1', M2', rfl, rfl, q3.mono (fun _ => tkC_k), q4.mono (fun _ => tkR_k), Or.inl ⟨a', e', t', by have := hG.2.1.1; omega, q6⟩⟩
    | false =>
      obtain ⟨M1', M2', q1, q2, q3, q4, q5⟩ := hG.fail (k := 1) (by decide) (by decide)
      obtain ⟨M1'', r1, r2, r3⟩ := q5.next
      have q1' : f_X6_refuse M1 1 1 = some M1' := q1
      have q2' : f_X11_fails M2 0 1 = some M2' := q2
      rw [bI_f, if_pos rfl, if_pos rfl, q1', bd_t, r1, bd_t, bd_t]
      dsimp only
      rw [if_pos rfl, q2', bd_t]
      exact ⟨M1'', M2', rfl, rfl, q3.tr r2, q4, Or.inr r3⟩
  · obtain ⟨b, b1⟩ := hB.isWord hi
    obtain ⟨M1', r1, r2, r3⟩ := hB.next
    rw [b1, bd_t, hB.is, bd_t, if_pos rfl, bd_t]
    dsimp only
    rw [if_pos rfl, hB.fails, bd_t]
    refine ⟨M1', M2, ?_, rfl, r2, OnN.rf, Or.inr r3⟩
    cases b with
    | true => rw [bI_t, if_neg (show ¬ (1 : Int32) = 0 by decide), r1, bd_t]
    | false => rw [bI_f, if_pos rfl, hB.refuse, bd_t, r1, bd_t]
/-- where a number stands, and lies from l to H less 1 -/
theorem PG.val {a e t l H : Nat} {hi : Int32} (h : PG L B M1 M2 a e t) (hh : hi = nI H - 1) (hH : H ≤ 2000) (hl : l ≤ 2000) : (∃ x, l ≤ x ∧ x < H ∧ t = 2 ∧ f_X6_numberHere M1 1 (nI l) hi = some (M1, nI x) ∧ gI M2 0 8 = 2 ∧ gI M2 0 10 = nI x ∧ f_X11_number M2 0 (nI l) hi = bd (f_X11_next M2 0) fun u3 => some (u3, nI x)) ∨ ∃ k M1' M2' v1 v2, (k = 1 ∨ k = 2) ∧ f_X6_numberHere M1 1 (nI l) hi = some (M1', v1) ∧ f_X11_number M2 0 (nI l) hi = some (M2', v2) ∧ OnT kC M1 M1' ∧ OnN kN M2 M2' ∧ PB L B M1' M2' ∧ (gI M2 0 8 = 2 → ∃ y : Nat, gI M2 0 10 = nI y ∧ y ≤ 2000000 ∧ ¬ (l ≤ y ∧ y < H)) := by
  have hG := h
  obtain ⟨hT, hK, g1, g2, g3⟩ := h
  obtain ⟨k1, k2, k3, k4, k5, k6, k7, k8, k9, k10, k11, k12⟩ := hK
  subst hh
  unfold f_X6_numberHere f_X11_number
  rw [oC_1, gd_t, k7, oR, gd_t, if_pos g2, k8]
  by_cases c : t = 2
  case' neg =>
    obtain ⟨M1', M2', q1, q2, q3, q4, q5⟩ := hG.fail (k := 1) (by decide) (by decide)
    have q1' : f_X6_refuse M1 1 1 = some M1' := q1
    have q2' : f_X11_fails M2 0 1 = some M2' := q2
    have c2 : ¬ nI t = 2 := nI_neL (x := 2) 2 rfl c (by omega) (by decide)
    refine Or.inr ⟨1, M1', M2', nI l, nI l, Or.inl rfl, ?_, ?_, q3, q4, q5, fun z => absurd z c2⟩
    · rw [if_neg c2, q1', bd_t]
    · rw [if_neg c2, q2', bd_t]
  have c2 : nI t = 2 := by rw [c]; rfl
  obtain ⟨x, y, ex, ey, hxy⟩ := k12 c
  rw [if_pos c2, if_pos c2, ex, ey]
  have hin : f_X11_in M2 (nI y).toInt64 (nI l).toInt64 (nI H - 1).toInt64 = some (if nI l ≤ nI y ∧ nI y < nI H then 1 else 0) := by
    rw [in32 _ _ (nI l) (nI H - 1) rfl rfl]
    simp only [le_pred (show H < 2 ^ 31 by omega)]
  rw [hin, bd_t]
  by_cases r : x = y ∧ l ≤ y ∧ y < H
  · obtain ⟨r1, r2, r3⟩ := r
    subst r1
    have hle : nI x ≤ nI H - 1 := (le_pred (by omega)).mpr (nI_lt r3 (by omega))
    refine Or.inl ⟨x, r2, r3, c, ?_, c2, rfl, ?_⟩
    · rw [if_neg (nI_nlt r2 (by omega)), if_pos hle]
    · rw [if_pos (show nI l ≤ nI x ∧ nI x < nI H from ⟨nI_le r2 (by omega), nI_lt r3 (by omega)⟩), if_neg (show ¬ (1 : Int32) = 0 by decide)]
  · have hnx : ¬ (l ≤ x ∧ x < H) := fun z => r ⟨by omega, by omega, by omega⟩
    have hny : ¬ (l ≤ y ∧ y < H) := fun z => r ⟨by omega, z⟩
    obtain ⟨M1', M2', q1, q2, q3, q4, q5⟩ := hG.fail (k := 2) (by decide) (by decide)
    have q1' : f_X6_refuse M1 1 2 = some M1' := q1
    have q2' : f_X11_fails M2 0 2 = some M2' := q2
    refine Or.inr ⟨2, M1', M2', nI l, nI l, Or.inr rfl, ?_, ?_, q3, q4, q5, fun _ => ⟨y, rfl, by omega, hny⟩⟩
    · by_cases c3 : x < l
      · rw [if_pos (nI_lt c3 (by omega)), q1', bd_t]
      · rw [if_neg (nI_nlt (by omega) (by omega)), if_neg (fun z => hnx ⟨by omega, by
          have := (le_pred (a := nI x) (show H < 2 ^ 31 by omega)).mp z
          rw [Int32.lt_iff_toInt_lt, nI_toInt (by omega), nI_toInt (by omega)] at this
          omega⟩), q1', bd_t]
    · rw [if_neg (show ¬ (nI l ≤ nI y ∧ nI y < nI H) from fun z => hny ⟨(nI_leI (by omega) (by omega)).mp z.1, by
        have := z.2
        rw [Int32.lt_iff_toInt_lt, nI_toInt (by omega), nI_toInt (by omega)] at this
        omega⟩), if_pos rfl, q2', bd_t]
theorem PB.here (h : PB L B M1 M2) (l hi : Int32) : ∃ v1, f_X6_numberHere M1 1 l hi = some (M1, v1) := by
  unfold f_X6_numberHere
  rw [oC_1, gd_t, h.refuse, h.refuse, bd_t]
  split
  · split
    · exact ⟨_, rfl⟩
    · split
      · exact ⟨_, rfl⟩
      · exact ⟨_, rfl⟩
  · exact ⟨_, rfl⟩
theorem PB.num (h : PB L B M1 M2) (l hi : Int32) : f_X11_number M2 0 l hi = some (M2, l) := by
  unfold f_X11_number
  rw [oR, gd_t, if_neg h.n]
theorem num_st {n l H : Nat} {lo hi : Int32} (hl' : lo = nI l) (hh : hi = nI H - 1) (hH : H ≤ 2000) (hl : l ≤ 2000) (h : St L B n M1 M2) : ∃ M1' M2' v1 v2, f_X6_number M1 1 lo hi = some (M1', v1) ∧ f_X11_number M2 0 lo hi = some (M2', v2) ∧ OnT kC M1 M1' ∧ OnN kN M2 M2' ∧ (((∃ a e t, n ≤ a ∧ PG L B M1' M2' a e t) ∧ ∃ x, l ≤ x ∧ x < H ∧ v1 = nI x ∧ v2 = nI x) ∨ PB L B M1' M2') := by
  subst hl'
  unfold f_X6_number
  rw [oC_1, gd_t]
  rcases h with ⟨a, e, t, ha, hG⟩ | hB
  · rcases hG.val hh hH hl with ⟨x, x1, x2, x3, x4, -, -, x5⟩ | ⟨k, M1', M2', v1, v2, x1, x2, x3, x4, x5, x6, -⟩
    · obtain ⟨M1', M2', a', e', t', q1, q2, q3, q4, q5, q6⟩ := hG.next
      rw [x4, bd_t, x5, q1, bd_t, q2, bd_t]
      exact ⟨M1', M2', nI x, nI x, rfl, rfl, q3.mono (fun _ => tkC_k), q4.mono (fun _ => tkR_k), Or.inl ⟨⟨a', e', t', by have := hG.2.1.1; omega, q6⟩, x, x1, x2, rfl, rfl⟩⟩
    · obtain ⟨M1'', r1, r2, r3⟩ := x6.next
      rw [x2, bd_t, r1, bd_t, x3]
      exact ⟨M1'', M2', v1, v2, rfl, rfl, x4.tr r2, x5, Or.inr r3⟩
  · obtain ⟨v1, e1⟩ := hB.here (nI l) hi
    obtain ⟨M1'', r1, r2, r3⟩ := hB.next
    rw [e1, bd_t, r1, bd_t, hB.num]
    exact ⟨M1'', M2, v1, nI l, rfl, rfl, r2, OnN.rf, Or.inr r3⟩
/-- a word, then a number -/
theorem wnum_st {n l H i : Nat} {lo hi : Int32} {w : Int64} (hw : w = wT i) (hi' : i < 26) (hl' : lo = nI l) (hh : hi = nI H - 1) (hH : H ≤ 2000) (hl : l ≤ 2000) (h : St L B n M1 M2) : ∃ Ma M1' M2' v1 v2, f_X6_word M1 1 i = some Ma ∧ f_X6_number Ma 1 lo hi = some (M1', v1) ∧ f_X11_number_ M2 0 w lo hi = some (M2', v2) ∧ OnT kC M1 Ma ∧ OnT kC Ma M1' ∧ OnN kN M2 M2' ∧ (((∃ a e t, n ≤ a ∧ PG L B M1' M2' a e t) ∧ ∃ x, l ≤ x ∧ x < H ∧ v1 = nI x ∧ v2 = nI x) ∨ PB L B M1' M2') := by
  subst hw
  obtain ⟨Ma, Mb, a1, a2, a3, a4, a5⟩ := word_st hi' h
  obtain ⟨M1', M2', v1, v2, b1, b2, b3, b4, b5⟩ := num_st hl' hh hH hl a5
  refine ⟨Ma, M1', M2', v1, v2, a1, b1, ?_, a3, b3, a4.tr b4, b5⟩
  unfold f_X11_number_
  rw [oR, gd_t, a2, bd_t, b2, bd_t]
theorem St.of {n : Nat} {P : Prop} (h : (((∃ a e t, n ≤ a ∧ PG L B M1 M2 a e t) ∧ P) ∨ PB L B M1 M2)) : St L B n M1 M2 := h.elim (fun z => Or.inl z.1) Or.inr
/-- the sign at a line's end -/
theorem sign_st {n : Nat} (h : St L B n M1 M2) (k95 : Mem → Option (Mem × Int32)) : ∃ M1' M2', f_X6_sign M1 1 = some M1' ∧ (bd (f_X11_isGood M2 0) fun v2 => if v2 = 0 then k95 M2 else bd (f_X11_ends M2 0) fun u3 => k95 u3) = k95 M2' ∧ OnT kC M1 M1' ∧ OnN kN M2 M2' ∧ St L B (n + 1) M1' M2' := by
  unfold f_X6_sign f_X11_isGood
  rw [oC_1, gd_t, oR, gd_t]
  rcases h with ⟨a, e, t, ha, hG⟩ | hB
  · rw [if_pos hG.2.2.2.1, bd_t, if_neg (show ¬ (1 : Int32) = 0 by decide)]
    unfold f_X11_ends f_X11_ends_13
    rw [oR, gd_t, gd_t, hG.2.1.2.2.2.2.2.2.1, hG.2.1.2.2.2.2.2.2.2.1]
    have ht4 := hG.2.1.2.2.2.2.2.2.2.2.1
    by_cases c : t = 3
    · obtain ⟨M1', M2', a', e', t', q1, q2, q3, q4, q5, q6⟩ := hG.next
      have hlt := hG.2.1.2.2.2.2.2.2.2.2.2.1 (by omega)
      have c3 : nI t = 3 := by rw [c]; rfl
      rw [if_pos c3, if_pos c3, q1, bd_t, if_pos hG.2.2.2.1, q2, bd_t, bd_t]
      exact ⟨M1', M2', rfl, rfl, q3.mono (fun _ => tkC_k), q4.mono (fun _ => tkR_k), Or.inl ⟨a', e', t', by omega, q6⟩⟩
    · obtain ⟨M1', M2', q1, q2, q3, q4, q5⟩ := hG.fail (k := 1) (by decide) (by decide)
      obtain ⟨M1'', r1, r2, r3⟩ := q5.next
      have q1' : f_X6_refuse M1 1 1 = some M1' := q1
      have q2' : f_X11_fails M2 0 1 = some M2' := q2
      have c3 : ¬ nI t = 3 := nI_neL (x := 3) 3 rfl c (by omega) (by decide)
      rw [if_neg c3, if_neg c3, q1', bd_t, r1, bd_t, q2', bd_t, gd_t, if_neg q5.n, bd_t]
      exact ⟨M1'', M2', rfl, rfl, q3.tr r2, q4, Or.inr r3⟩
  · obtain ⟨M1', r1, r2, r3⟩ := hB.next
    rw [if_neg hB.n, bd_t, if_pos rfl, hB.refuse, bd_t, r1, bd_t]
    refine ⟨M1', M2, ?_, rfl, r2, OnN.rf, Or.inr r3⟩
    split <;> rfl
end PR
