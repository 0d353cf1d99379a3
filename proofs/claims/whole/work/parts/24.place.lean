/-! WHERE STALLS ARE -/
theorem emod_tmod (x P : Int) (hP : 0 < P) : x % P = if 0 ≤ x.tmod P then x.tmod P else x.tmod P + P := by
  have hb := tmod_bounds (a := x) hP
  have e : x % P = (x.tmod P) % P := by
    have h := Int.tmod_add_mul_tdiv x P
    calc x % P = (x.tmod P + P * x.tdiv P) % P := by rw [h]
      _ = (x.tmod P) % P := Int.add_mul_emod_self_left _ _ _
  rw [e]
  by_cases h0 : 0 ≤ x.tmod P
  · rw [if_pos h0]
    exact Int.emod_eq_of_lt h0 hb.2
  · rw [if_neg h0]
    have : (x.tmod P) % P = (x.tmod P + P) % P := (Int.add_emod_right (x.tmod P) P).symm
    rw [this]
    exact Int.emod_eq_of_lt (by omega) (by omega)
theorem of_toInt {x : Int32} {n : Nat} (h : x.toInt = (n : Int)) (hn : n < 2 ^ 31) : x = nI n := by
  apply Int32.toInt_inj.mp
  rw [h, nI_toInt hn]
theorem nn_msb (x : Int32) : 0 ≤ x ↔ x.toBitVec.msb = false := by
  rw [Int32.le_iff_toInt_le, BitVec.msb_eq_toInt]
  have : (0 : Int32).toInt = 0 := rfl
  rw [this]
  show 0 ≤ x.toInt ↔ decide (x.toInt < 0) = false
  simp
theorem xor_nn (x : Int32) {P : Nat} (hP : P < 2 ^ 31) : 0 ≤ (x ^^^ nI P) ↔ 0 ≤ x := by
  rw [nn_msb, nn_msb, Int32.toBitVec_xor, BitVec.msb_xor, (nn_msb (nI P)).mp (nI_pos' hP)]
  simp
theorem add_small {a b : Int32} (h1 : -1000000 ≤ a.toInt ∧ a.toInt ≤ 1000000) (h2 : -1000000 ≤ b.toInt ∧ b.toInt ≤ 1000000) : (a + b).toInt = a.toInt + b.toInt := by
  rw [Int32.toInt_add]
  apply Int.bmod_eq_of_le <;> omega
theorem floorMod_eq (M : Mem) (x : Int32) {P : Nat} (h0 : 0 < P) (hP : P < 1000) : f_X20_floorMod M x (nI P) = some (nI (x.toInt % (P : Int)).toNat) := by
  have hn0 : ¬ nI P = 0 := nI_ne0 h0 (by omega)
  have hPi : (nI P).toInt = (P : Int) := nI_toInt (by omega)
  have er : (x - x / nI P * nI P).toInt = x.toInt.tmod P := by rw [rem_toInt, hPi]
  have hb := tmod_bounds (a := x.toInt) (M := (P : Int)) (by omega)
  have em := emod_tmod x.toInt P (by omega)
  unfold f_X20_floorMod
  rw [show (!(nI P == 0)) = true by simpa using hn0, gd_t]
  by_cases hx : 0 ≤ x
  · have hx' : 0 ≤ x.toInt := Int32.le_iff_toInt_le.mp hx
    rw [if_pos ((xor_nn x (by omega)).mpr hx)]
    have hr : 0 ≤ x.toInt.tmod P := Int.tmod_nonneg _ hx'
    rw [if_pos hr] at em
    congr 1
    exact of_toInt (by rw [er, em]; omega) (by omega)
  · rw [if_neg (fun z => hx ((xor_nn x (by omega)).mp z))]
    by_cases hr : 0 ≤ x.toInt.tmod P
    · rw [if_pos hr] at em
      have hx' : x.toInt < 0 := by
        have : ¬ (0 : Int) ≤ x.toInt := fun z => hx (Int32.le_iff_toInt_le.mpr z)
        omega
      have hr2 : x.toInt.tmod P ≤ 0 := by
        have := Int.tmod_nonneg (a := -x.toInt) (P : Int) (by omega)
        rw [Int.neg_tmod] at this
        omega
      have hz : x - x / nI P * nI P = 0 := Int32.toInt_inj.mp (by rw [er]; show x.toInt.tmod P = 0; omega)
      rw [if_pos hz, hz, em]
      have : (x.toInt.tmod P).toNat = 0 := by omega
      rw [this]
      rfl
    · rw [if_neg hr] at em
      have hz : ¬ x - x / nI P * nI P = 0 := fun z => hr (by rw [← er, z]; decide)
      rw [if_neg hz]
      congr 1
      refine of_toInt ?_ (by omega)
      rw [add_small (by rw [er]; omega) (by rw [hPi]; omega), er, hPi, em]
      omega
/-- where the stall s is in the minute m -/
def kWy (D : MK) (s m : Nat) : Int := (kSl D s 1 : Int) + (if kRg D (kSl D s 0) 1 = 1 then (kTn D (kSl D s 0) m : Int) else -(kTn D (kSl D s 0) m : Int))
def kPl (D : MK) (s m : Nat) : Nat := (kWy D s m % (kP D : Int)).toNat
theorem kPl_lt {D : MK} (hP : 0 < kP D) (s m : Nat) : kPl D s m < kP D := by
  have h1 := Int.emod_nonneg (kWy D s m) (show (kP D : Int) ≠ 0 by omega)
  have h2 := Int.emod_lt_of_pos (kWy D s m) (show 0 < (kP D : Int) by omega)
  unfold kPl
  omega
theorem kTn_le (D : MK) (r m : Nat) : kTn D r m ≤ m + 1 := (kTr_le D r (m + 1)).1
theorem neg_small {x : Int32} (h : -1000000 ≤ x.toInt ∧ x.toInt ≤ 1000000) : (-x).toInt = -x.toInt := by
  rw [Int32.toInt_neg]
  apply Int.bmod_eq_of_le <;> omega
theorem mb_out {b : Nat} (hb : b ∈ MB) {a : Nat} (h1 : 81 ≤ a) (h2 : a < 149) : a < b ∨ b + 39 ≤ a := by
  simp only [MB, List.mem_cons, List.not_mem_nil, or_false] at hb
  omega
theorem zC_t : ∀ r, r < 3 → shC (87 + r) = (100, 60) ∧ gR (fun _ _ => 0, fun _ _ => 0, CRf) 86 r = some (87 + r) ∧ mutB 86 r = false := by decide +kernel
theorem zC_p : ∀ s, s < 8 → shC (91 + s) = (100, 60) ∧ gR (fun _ _ => 0, fun _ _ => 0, CRf) 90 s = some (91 + s) ∧ mutB 90 s = false := by decide +kernel
theorem cr_t {M : Mem} (h : CR M) {r : Nat} (hr : r < 3) : gR M 86 r = some (87 + r) := (h _ _ (zC_t r hr).2.2).trans (zC_t r hr).2.1
theorem cr_p {M : Mem} (h : CR M) {s : Nat} (hr : s < 8) : gR M 90 s = some (91 + s) := (h _ _ (zC_p s hr).2.2).trans (zC_p s hr).2.1
/-- the rings' turns lie in the course -/
def TnC (M : Mem) (D : MK) : Prop := ∀ r, r < kNr D → ∀ m, m < kMi D → gI M (87 + r) m = nI (kTn D r m)
def PlC (M : Mem) (D : MK) (s : Nat) : Prop := ∀ m, m < kMi D → gI M (91 + s) m = nI (kPl D s m)
theorem carry_loop {M : Mem} {b s : Nat} {D : MK} (hb : b ∈ MB) (hCR : CR M) (hW : WFD D) (hC : CM M b D) (hs : s < kNs D) (hP : 0 < kP D) (hT : TnC M D) :
    ∀ n m M', m ≤ kMi D → kMi D < n + m → Only (· = 91 + s) M M' → (∀ i, i < m → gI M' (91 + s) i = nI (kPl D s i)) → ∃ M'', f_X2_carry_29 n M' 85 b (nI s) (b + 7 + s) (b + 4 + kSl D s 0) (nI m) = some M'' ∧ Only (· = 91 + s) M M'' ∧ PlC M'' D s := by
  have hMi : kMi D ≤ 60 := by rcases hW.1 with h | h <;> omega
  have hP12 : kP D ≤ 12 := by rcases hW.1 with h | h <;> omega
  have hNs := hW.2.2.1
  have hNr := hW.2.1
  have hsl := hW.2.2.2.2.2.1 s hs
  have hrg := hW.2.2.2.2.1 (kSl D s 0) hsl.1
  have hms := mb_sh b hb
  have h90 := mb_out hb (a := 91 + s) (by omega) (by omega)
  intro n
  induction n with
  | zero => intro m M' h1 h2; omega
  | succ n ih =>
    intro m M' h1 h2 hO hi
    show ∃ M'', s_X2_carry_29 (f_X2_carry_29 n) M' 85 b (nI s) (b + 7 + s) (b + 4 + kSl D s 0) (nI m) = some M'' ∧ _
    unfold s_X2_carry_29
    have hCR' := hO.CR hCR
    rw [hms.1, gd_t, hO.2 b (by omega), hC.1.2.1]
    by_cases hm : m = kMi D
    · subst hm
      rw [if_pos (nI_le (Nat.le_refl _) (by omega))]
      exact ⟨M', rfl, hO, hi⟩
    have hlt : m < kMi D := by omega
    rw [if_neg (nI_ge hlt (by omega)), hms.2.2.2.2.1 _ (by omega), gd_t, hO.2 (b + 4 + kSl D s 0) (by omega), (hC.2.1 _ hsl.1).2.1, oC_85, gd_t, gd_t, cr_85_0 hCR', bd_t, bd_t, hms.2.2.2.2.2.1 s (by omega), gd_t, gd_t, hO.2 (b + 7 + s) (by omega), hC.2.2.1 s hs 0 (by decide), aB_t (kSl D s 0) zC_86 rfl (by omega) (by decide), gd_t, gd_t, nI_clamp (by omega), cr_t hCR' (by omega), bd_t, bd_t, aB_t m (zC_t _ (by omega)).1 rfl (by omega) (by decide), gd_t, gd_t, nI_clamp (by omega), hO.2 (87 + kSl D s 0) (by omega), hT _ hsl.1 m hlt]
    have hle := kTn_le D (kSl D s 0) m
    have fin : ∀ w : Int32, w.toInt = (if kRg D (kSl D s 0) 1 = 1 then (kTn D (kSl D s 0) m : Int) else -(kTn D (kSl D s 0) m : Int)) → ∃ M'', f_X2_carry_74 (f_X2_carry_29 n) M' 85 b (nI s) (b + 7 + s) (b + 4 + kSl D s 0) (nI m) w = some M'' ∧ Only (· = 91 + s) M M'' ∧ PlC M'' D s := by
      intro w hw
      have hwb : -1000 ≤ w.toInt ∧ w.toInt ≤ 1000 := by rw [hw]; split <;> omega
      unfold f_X2_carry_74
      rw [oC_85, gd_t, cr_85_1 hCR', bd_t, aB_t s zC_90 rfl (by omega) (by decide), gd_t, nI_clamp (by omega), cr_p hCR' (by omega), bd_t, hms.2.2.2.2.2.1 s (by omega), gd_t, hms.1, gd_t, hO.2 (b + 7 + s) (by omega), hC.2.2.1 s hs 1 (by decide), hO.2 b (by omega), hC.1.1, floorMod_eq _ _ hP (by omega), bd_t, aB_t m (zC_p s (by omega)).1 rfl (by omega) (by decide), gd_t, nx_t, nI_clamp (by omega), nI_1]
      have ew : ((nI (kSl D s 1) + w).toInt % (kP D : Int)).toNat = kPl D s m := by
        rw [add_small (by rw [nI_toInt (by omega)]; omega) (by omega), nI_toInt (by omega), hw]
        rfl
      rw [ew]
      exact ih (m + 1) _ (by omega) (by omega) (hO.I rfl) (fun i hi' => by
        rw [gI_sI]
        by_cases h : i = m
        · subst h; rw [if_pos ⟨rfl, rfl⟩]
        · rw [if_neg (fun z => h z.2)]; exact hi i (by omega))
    by_cases he : kRg D (kSl D s 0) 1 = 0
    · rw [if_pos (by rw [he]; rfl)]
      refine fin _ ?_
      rw [if_neg (by omega), neg_small (by rw [nI_toInt (by omega)]; omega), nI_toInt (by omega)]
    · rw [if_neg (nI_ne0 (by omega) (by omega))]
      refine fin _ ?_
      rw [if_pos (by omega), nI_toInt (by omega)]
