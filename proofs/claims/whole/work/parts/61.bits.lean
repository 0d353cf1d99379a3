/-! BITS COUNTED. The rows wb_ were taken from the kit's laws of bits (a starting text). -/
theorem wb_tb (n : Nat) : (lN n).toBitVec = BitVec.ofNat 64 n := rfl
theorem wb_inj {a b : Int64} (h : a.toBitVec = b.toBitVec) : a = b := Int64.toBitVec_inj.mp h
theorem wb_tn {n : Nat} (h : n < 2 ^ 64) : (lN n).toBitVec.toNat = n := by rw [wb_tb, BitVec.toNat_ofNat, Nat.mod_eq_of_lt h]
theorem wb_of (x : Int64) : ∃ n, n < 2 ^ 64 ∧ x = lN n := ⟨x.toBitVec.toNat, x.toBitVec.isLt, wb_inj (by rw [wb_tb]; simp)⟩
theorem wb_c : ∀ k, k < 64 → ((nI k).toInt64 &&& 63) = lN k := by decide +kernel
theorem wb_cu : ∀ k, k < 64 → ((nI k).toInt64.toUInt64 &&& Int64.toUInt64 63) = UInt64.ofNat k := by decide +kernel
theorem wb_sm : ∀ k, k < 64 → (BitVec.ofNat 64 k).smod 64 = BitVec.ofNat 64 k := by decide +kernel
theorem wb_pw {a b : Nat} (h : a ≤ b) : 2 ^ b = 2 ^ a * 2 ^ (b - a) := by rw [← Nat.pow_add]; congr 1; omega
theorem wb_lt2 {a b : Nat} (h : a < b) : 2 ^ a < 2 ^ b := Nat.pow_lt_pow_right (by decide) h
theorem wb_shr {n k : Nat} (hn : n < 2 ^ 64) (hk : k < 64) : ((lN n).toUInt64 >>> ((nI k).toInt64.toUInt64 &&& Int64.toUInt64 63)).toInt64 = lN (n / 2 ^ k) := by
  rw [wb_cu k hk]
  apply wb_inj
  apply BitVec.eq_of_toNat_eq
  show ((lN n).toUInt64 >>> UInt64.ofNat k).toNat = (BitVec.ofNat 64 _).toNat
  have h1 : (UInt64.ofNat k).toNat = k := by
    show (BitVec.ofNat 64 k).toNat = k
    rw [BitVec.toNat_ofNat, Nat.mod_eq_of_lt (by omega)]
  have h2 : (lN n).toUInt64.toNat = n := wb_tn hn
  rw [UInt64.toNat_shiftRight, h1, h2, Nat.mod_eq_of_lt hk, Nat.shiftRight_eq_div_pow, BitVec.toNat_ofNat, Nat.mod_eq_of_lt (Nat.lt_of_le_of_lt (Nat.div_le_self _ _) hn)]
theorem wb_shl (n : Nat) {k : Nat} (hk : k < 64) : lN n <<< ((nI k).toInt64 &&& 63) = lN (n * 2 ^ k) := by
  rw [wb_c k hk]
  apply wb_inj
  rw [Int64.toBitVec_shiftLeft, wb_tb, wb_tb, wb_tb, wb_sm k hk]
  apply BitVec.eq_of_toNat_eq
  rw [BitVec.shiftLeft_eq', BitVec.toNat_shiftLeft, BitVec.toNat_ofNat, BitVec.toNat_ofNat, BitVec.toNat_ofNat, Nat.mod_eq_of_lt (show k < 2 ^ 64 by omega), Nat.shiftLeft_eq, Nat.mul_mod, Nat.mod_mod, ← Nat.mul_mod]
theorem wb_and {a b : Nat} (ha : a < 2 ^ 64) (hb : b < 2 ^ 64) : lN a &&& lN b = lN (a &&& b) := by
  apply wb_inj
  rw [Int64.toBitVec_and, wb_tb, wb_tb, wb_tb]
  apply BitVec.eq_of_toNat_eq
  rw [BitVec.toNat_and, BitVec.toNat_ofNat, BitVec.toNat_ofNat, BitVec.toNat_ofNat, Nat.mod_eq_of_lt ha, Nat.mod_eq_of_lt hb, Nat.mod_eq_of_lt (Nat.and_lt_two_pow _ hb)]
theorem wb_or {a b : Nat} (ha : a < 2 ^ 64) (hb : b < 2 ^ 64) : lN a ||| lN b = lN (a ||| b) := by
  apply wb_inj
  rw [Int64.toBitVec_or, wb_tb, wb_tb, wb_tb]
  apply BitVec.eq_of_toNat_eq
  rw [BitVec.toNat_or, BitVec.toNat_ofNat, BitVec.toNat_ofNat, BitVec.toNat_ofNat, Nat.mod_eq_of_lt ha, Nat.mod_eq_of_lt hb, Nat.mod_eq_of_lt (Nat.or_lt_two_pow ha hb)]
def pcN (X : Nat) : Nat → Nat
  | 0 => 0
  | m + 1 => pcN X m + (if X.testBit m then 1 else 0)
theorem pcN_s {X m : Nat} : pcN X (m + 1) = pcN X m + (if X.testBit m then 1 else 0) := rfl
theorem pcN_cong {X Y : Nat} : ∀ n, (∀ i, i < n → X.testBit i = Y.testBit i) → pcN X n = pcN Y n
  | 0, _ => rfl
  | n + 1, h => by rw [pcN_s, pcN_s, pcN_cong n (fun i hi => h i (by omega)), h n (by omega)]
theorem pcN_split {x b : Nat} (hb : b < 2 ^ 8) : ∀ n, pcN (2 ^ 8 * x + b) (8 + n) = pcN b 8 + pcN x n
  | 0 => pcN_cong 8 (fun i hi => by rw [Nat.testBit_two_pow_mul_add _ hb, if_pos hi])
  | n + 1 => by
    rw [← Nat.add_assoc, pcN_s, pcN_split hb n, pcN_s (X := x) (m := n), Nat.testBit_two_pow_mul_add _ hb, if_neg (show ¬ 8 + n < 8 by omega), show 8 + n - 8 = n by omega, Nat.add_assoc]
theorem and_split {x y b c : Nat} (hb : b < 2 ^ 8) (hc : c < 2 ^ 8) : (2 ^ 8 * x + b) &&& (2 ^ 8 * y + c) = 2 ^ 8 * (x &&& y) + (b &&& c) := by
  apply Nat.eq_of_testBit_eq
  intro i
  rw [Nat.testBit_and, Nat.testBit_two_pow_mul_add _ hb, Nat.testBit_two_pow_mul_add _ hc, Nat.testBit_two_pow_mul_add _ (Nat.and_lt_two_pow _ hc)]
  by_cases h : i < 8
  · rw [if_pos h, if_pos h, if_pos h, Nat.testBit_and]
  · rw [if_neg h, if_neg h, if_neg h, Nat.testBit_and]
def mkN (c : Nat) : Nat → Nat
  | 0 => 0
  | n + 1 => 2 ^ 8 * mkN c n + c
def fA (X p q : Nat) : Nat := ((X - (X / 2 &&& p)) &&& q) + ((X - (X / 2 &&& p)) / 4 &&& q)
def fB (Y p : Nat) : Nat := (Y + Y / 16) &&& p
theorem q_1 : ∀ b, b < 256 → ∀ t, t < 2 → (128 * t + b / 2) &&& 85 = b / 2 &&& 85 := by decide +kernel
theorem q_2 : ∀ b, b < 256 → ∀ t, t < 4 → (64 * t + b / 4) &&& 51 = b / 4 &&& 51 := by decide +kernel
theorem q_3 : ∀ b, b < 256 → fA b 85 51 % 16 ≤ 4 ∧ fA b 85 51 / 16 ≤ 4 := by decide +kernel
theorem q_4 : ∀ c, c < 69 → ∀ t, t < 5 → (c + 16 * t + c / 16) &&& 15 = (c + c / 16) &&& 15 := by decide +kernel
theorem q_5 : ∀ b, b < 256 → fB (fA b 85 51) 15 = pcN b 8 := by decide +kernel
theorem fA_split {x p q b : Nat} (hb : b < 256) : fA (2 ^ 8 * x + b) (2 ^ 8 * p + 85) (2 ^ 8 * q + 51) = 2 ^ 8 * fA x p q + fA b 85 51 := by
  have h1 : (2 ^ 8 * x + b) / 2 = 2 ^ 8 * (x / 2) + (128 * (x % 2) + b / 2) := by omega
  have h2 : (2 ^ 8 * x + b) / 2 &&& (2 ^ 8 * p + 85) = 2 ^ 8 * (x / 2 &&& p) + (b / 2 &&& 85) := by
    rw [h1, and_split (by omega) (by decide), q_1 b hb _ (by omega)]
  have l1 : (x / 2 &&& p) ≤ x / 2 := Nat.and_le_left
  have l2 : (b / 2 &&& 85) ≤ b / 2 := Nat.and_le_left
  have h3 : 2 ^ 8 * x + b - ((2 ^ 8 * x + b) / 2 &&& (2 ^ 8 * p + 85)) = 2 ^ 8 * (x - (x / 2 &&& p)) + (b - (b / 2 &&& 85)) := by
    rw [h2]
    omega
  have l3 : b - (b / 2 &&& 85) < 2 ^ 8 := by omega
  unfold fA
  rw [h3]
  generalize hy : x - (x / 2 &&& p) = y
  generalize hc : b - (b / 2 &&& 85) = c at l3 ⊢
  have h4 : (2 ^ 8 * y + c) / 4 = 2 ^ 8 * (y / 4) + (64 * (y % 4) + c / 4) := by omega
  rw [h4, and_split l3 (by decide), and_split (by omega) (by decide), q_2 c (by omega) _ (by omega)]
  omega
theorem fB_split {y p c : Nat} (h1 : c % 16 ≤ 4) (h2 : c / 16 ≤ 4) (h3 : y % 16 ≤ 4) : fB (2 ^ 8 * y + c) (2 ^ 8 * p + 15) = 2 ^ 8 * fB y p + fB c 15 := by
  have h4 : 2 ^ 8 * y + c + (2 ^ 8 * y + c) / 16 = 2 ^ 8 * (y + y / 16) + (c + 16 * (y % 16) + c / 16) := by omega
  unfold fB
  rw [h4, and_split (by omega) (by decide), q_4 c (by omega) _ (by omega)]
def pkN (X : Nat) : Nat → Nat
  | 0 => 0
  | n + 1 => 2 ^ 8 * pkN (X / 256) n + pcN (X % 256) 8
theorem pk_all : ∀ n X, X < 256 ^ n → fA X (mkN 85 n) (mkN 51 n) % 16 ≤ 4 ∧ fB (fA X (mkN 85 n) (mkN 51 n)) (mkN 15 n) = pkN X n
  | 0, X, h => by
    have : X = 0 := by simpa using h
    subst this
    decide +kernel
  | n + 1, X, h => by
    have hx : X = 2 ^ 8 * (X / 256) + X % 256 := by omega
    have hl : X / 256 < 256 ^ n := by
      rw [Nat.pow_succ] at h
      exact Nat.div_lt_of_lt_mul (by rw [Nat.mul_comm]; exact h)
    have hb : X % 256 < 256 := Nat.mod_lt _ (by decide)
    obtain ⟨i1, i2⟩ := pk_all n (X / 256) hl
    have e : fA X (mkN 85 (n + 1)) (mkN 51 (n + 1)) = 2 ^ 8 * fA (X / 256) (mkN 85 n) (mkN 51 n) + fA (X % 256) 85 51 := by
      have := fA_split (x := X / 256) (p := mkN 85 n) (q := mkN 51 n) hb
      rw [← hx] at this
      exact this
    have b := q_3 (X % 256) hb
    rw [e]
    refine ⟨by omega, ?_⟩
    show fB _ (2 ^ 8 * mkN 15 n + 15) = _
    rw [fB_split b.1 b.2 i1, i2, q_5 _ hb]
    rfl
theorem pc8_le : ∀ n X, pcN X n ≤ n
  | 0, _ => Nat.le_refl _
  | n + 1, X => by
    have := pc8_le n X
    rw [pcN_s]
    split <;> omega
theorem pcN_b (X n : Nat) : pcN X (8 + n) = pcN (X % 256) 8 + pcN (X / 256) n := by
  have := pcN_split (x := X / 256) (b := X % 256) (by omega) n
  rw [show 2 ^ 8 * (X / 256) + X % 256 = X by omega] at this
  exact this
theorem and_lt64 {a b : Nat} (hb : b < 2 ^ 64) : (a &&& b) < 2 ^ 64 := Nat.and_lt_two_pow _ hb
theorem fin8 {p0 p1 p2 p3 p4 p5 p6 p7 A1 A2 A3 A4 A5 A6 Z : Nat} (c0 : p0 ≤ 8) (c1 : p1 ≤ 8) (c2 : p2 ≤ 8) (c3 : p3 ≤ 8) (c4 : p4 ≤ 8) (c5 : p5 ≤ 8) (c6 : p6 ≤ 8) (c7 : p7 ≤ 8) (h0 : Z = p0 + 256 * A1) (h1 : A1 = p1 + 256 * A2) (h2 : A2 = p2 + 256 * A3) (h3 : A3 = p3 + 256 * A4) (h4 : A4 = p4 + 256 * A5) (h5 : A5 = p5 + 256 * A6) (h6 : A6 = p6 + 256 * p7) : Z / 256 = A1 ∧ (Z + A1) / 65536 = A2 + A3 ∧ (Z + A1 + (A2 + A3)) / 4294967296 = (A4 + A5) + (A6 + p7) ∧ (Z + A1 + (A2 + A3) + ((A4 + A5) + (A6 + p7))) % 128 = p0 + p1 + p2 + p3 + p4 + p5 + p6 + p7 := by
  refine ⟨by omega, by omega, ?_, ?_⟩
  · have e : Z + A1 + (A2 + A3) = (p0 + p1 + p2 + p3) + 256 * (p1 + p2 + p3 + p4) + 65536 * (p2 + p3 + p4 + p5) + 16777216 * (p3 + p4 + p5 + p6) + 4294967296 * ((A4 + A5) + (A6 + p7)) := by omega
    rw [e]
    generalize (A4 + A5) + (A6 + p7) = K
    omega
  · have e : Z + A1 + (A2 + A3) + ((A4 + A5) + (A6 + p7)) = (p0 + p1 + p2 + p3 + p4 + p5 + p6 + p7) + 256 * (A1 + A2 + A3 + A4 + A5 + A6 + p7) := by omega
    rw [e]
    generalize A1 + A2 + A3 + A4 + A5 + A6 + p7 = K
    omega
theorem pc64 (X : Nat) : ∃ p0 p1 p2 p3 p4 p5 p6 p7 A1 A2 A3 A4 A5 A6, p0 ≤ 8 ∧ p1 ≤ 8 ∧ p2 ≤ 8 ∧ p3 ≤ 8 ∧ p4 ≤ 8 ∧ p5 ≤ 8 ∧ p6 ≤ 8 ∧ p7 ≤ 8 ∧ pkN X 8 = p0 + 256 * A1 ∧ A1 = p1 + 256 * A2 ∧ A2 = p2 + 256 * A3 ∧ A3 = p3 + 256 * A4 ∧ A4 = p4 + 256 * A5 ∧ A5 = p5 + 256 * A6 ∧ A6 = p6 + 256 * p7 ∧ pcN X 64 = p0 + p1 + p2 + p3 + p4 + p5 + p6 + p7 := by
  have st : ∀ Y n, pkN Y (n + 1) = pcN (Y % 256) 8 + 256 * pkN (Y / 256) n := fun Y n => by
    show 2 ^ 8 * pkN (Y / 256) n + pcN (Y % 256) 8 = _
    omega
  have a0 := pcN_b X 56
  have a1 := pcN_b (X / 256) 48
  have a2 := pcN_b (X / 256 / 256) 40
  have a3 := pcN_b (X / 256 / 256 / 256) 32
  have a4 := pcN_b (X / 256 / 256 / 256 / 256) 24
  have a5 := pcN_b (X / 256 / 256 / 256 / 256 / 256) 16
  have a6 := pcN_b (X / 256 / 256 / 256 / 256 / 256 / 256) 8
  have a7 := pcN_b (X / 256 / 256 / 256 / 256 / 256 / 256 / 256) 0
  have z7 : pcN (X / 256 / 256 / 256 / 256 / 256 / 256 / 256 / 256) 0 = 0 := rfl
  have b7 := st (X / 256 / 256 / 256 / 256 / 256 / 256 / 256) 0
  have w7 : pkN (X / 256 / 256 / 256 / 256 / 256 / 256 / 256 / 256) 0 = 0 := rfl
  refine ⟨_, _, _, _, _, _, _, pkN (X / 256 / 256 / 256 / 256 / 256 / 256 / 256) 1, _, _, _, _, _, _, pc8_le 8 _, pc8_le 8 _, pc8_le 8 _, pc8_le 8 _, pc8_le 8 _, pc8_le 8 _, pc8_le 8 _, ?_, st X 7, st _ 6, st _ 5, st _ 4, st _ 3, st _ 2, st _ 1, ?_⟩
  · have := pc8_le 8 (X / 256 / 256 / 256 / 256 / 256 / 256 / 256 % 256)
    rw [b7, w7]
    omega
  · rw [b7, w7]
    rw [z7] at a7
    rw [a7] at a6
    rw [a6] at a5
    rw [a5] at a4
    rw [a4] at a3
    rw [a3] at a2
    rw [a2] at a1
    rw [a1] at a0
    rw [a0]
    omega
theorem bc_tail {Z T : Nat} (p : ∃ p0 p1 p2 p3 p4 p5 p6 p7 A1 A2 A3 A4 A5 A6, p0 ≤ 8 ∧ p1 ≤ 8 ∧ p2 ≤ 8 ∧ p3 ≤ 8 ∧ p4 ≤ 8 ∧ p5 ≤ 8 ∧ p6 ≤ 8 ∧ p7 ≤ 8 ∧ Z = p0 + 256 * A1 ∧ A1 = p1 + 256 * A2 ∧ A2 = p2 + 256 * A3 ∧ A3 = p3 + 256 * A4 ∧ A4 = p4 + 256 * A5 ∧ A5 = p5 + 256 * A6 ∧ A6 = p6 + 256 * p7 ∧ T = p0 + p1 + p2 + p3 + p4 + p5 + p6 + p7) : ∃ V2 V3 V4, Z < 2 ^ 62 ∧ Z / 256 = V2 ∧ Z + V2 < 2 ^ 63 ∧ (Z + V2) / 65536 = V3 ∧ Z + V2 + V3 < 2 ^ 64 ∧ (Z + V2 + V3) / 4294967296 = V4 ∧ (Z + V2 + V3 + V4) % 128 = T := by
  obtain ⟨p0, p1, p2, p3, p4, p5, p6, p7, A1, A2, A3, A4, A5, A6, c0, c1, c2, c3, c4, c5, c6, c7, h0, h1, h2, h3, h4, h5, h6, hT⟩ := p
  obtain ⟨f1, f2, f3, f4⟩ := fin8 c0 c1 c2 c3 c4 c5 c6 c7 h0 h1 h2 h3 h4 h5 h6
  exact ⟨_, _, _, by omega, f1, by omega, f2, by omega, f3, by rw [hT]; exact f4⟩
theorem bitCount_N (M : Mem) {X : Nat} (hX : X < 2 ^ 64) : f_X22_bitCount M (lN X) = some (nI (pcN X 64)) := by
  have s1 : ∀ Y, Y < 2 ^ 64 → ((lN Y).toUInt64 >>> ((1 : Int32).toInt64.toUInt64 &&& Int64.toUInt64 63)).toInt64 = lN (Y / 2) := fun Y h => wb_shr (k := 1) h (by decide)
  have s2 : ∀ Y, Y < 2 ^ 64 → ((lN Y).toUInt64 >>> ((2 : Int32).toInt64.toUInt64 &&& Int64.toUInt64 63)).toInt64 = lN (Y / 4) := fun Y h => wb_shr (k := 2) h (by decide)
  have s4 : ∀ Y, Y < 2 ^ 64 → ((lN Y).toUInt64 >>> ((4 : Int32).toInt64.toUInt64 &&& Int64.toUInt64 63)).toInt64 = lN (Y / 16) := fun Y h => wb_shr (k := 4) h (by decide)
  have s8 : ∀ Y, Y < 2 ^ 64 → ((lN Y).toUInt64 >>> ((8 : Int32).toInt64.toUInt64 &&& Int64.toUInt64 63)).toInt64 = lN (Y / 256) := fun Y h => wb_shr (k := 8) h (by decide)
  have s16 : ∀ Y, Y < 2 ^ 64 → ((lN Y).toUInt64 >>> ((16 : Int32).toInt64.toUInt64 &&& Int64.toUInt64 63)).toInt64 = lN (Y / 65536) := fun Y h => wb_shr (k := 16) h (by decide)
  have s32 : ∀ Y, Y < 2 ^ 64 → ((lN Y).toUInt64 >>> ((32 : Int32).toInt64.toUInt64 &&& Int64.toUInt64 63)).toInt64 = lN (Y / 4294967296) := fun Y h => wb_shr (k := 32) h (by decide)
  obtain ⟨-, hP⟩ := pk_all 8 X (Nat.lt_of_lt_of_eq hX (by decide +kernel))
  have m1 : (6148914691236517205 : Int64) = lN (mkN 85 8) := by decide +kernel
  have m2 : (3689348814741910323 : Int64) = lN (mkN 51 8) := by decide +kernel
  have m3 : (1085102592571150095 : Int64) = lN (mkN 15 8) := by decide +kernel
  have k1 : mkN 85 8 < 2 ^ 64 := by decide +kernel
  have k2 : mkN 51 8 < 2 ^ 62 := by decide +kernel
  have k3 : mkN 15 8 < 2 ^ 64 := by decide +kernel
  unfold fB fA at hP
  generalize mkN 85 8 = K1 at m1 k1 hP
  generalize mkN 51 8 = K2 at m2 k2 hP
  generalize mkN 15 8 = K3 at m3 k3 hP
  have l1 : (X / 2 &&& K1) ≤ X / 2 := Nat.and_le_left
  have q1 : X / 2 < 2 ^ 64 := by omega
  have q2 : (X / 2 &&& K1) ≤ X := by omega
  obtain ⟨V2, V3, V4, t1, t2, t3, t4, t5, t6, t7⟩ := bc_tail (Z := pkN X 8) (T := pcN X 64) (pc64 X)
  unfold f_X22_bitCount
  rw [nx_t, nx_t, nx_t, nx_t, nx_t, nx_t, nx_t, nx_t, nx_t, m1, m2, m3, s1 X hX, wb_and q1 k1, lN_sub q2]
  have y1 : X - (X / 2 &&& K1) < 2 ^ 64 := by omega
  clear l1 q1 q2 hX
  generalize X - (X / 2 &&& K1) = Y1 at hP y1 ⊢
  have y4 : Y1 / 4 < 2 ^ 64 := by omega
  have k22 : K2 < 2 ^ 64 := by omega
  have l2 : (Y1 &&& K2) ≤ K2 := Nat.and_le_right
  have l3 : (Y1 / 4 &&& K2) ≤ K2 := Nat.and_le_right
  rw [wb_and y1 k22, s2 Y1 y1, wb_and y4 k22, lN_add]
  have y2 : (Y1 &&& K2) + (Y1 / 4 &&& K2) < 2 ^ 63 := by omega
  clear l2 l3
  generalize (Y1 &&& K2) + (Y1 / 4 &&& K2) = Y2 at hP y2 ⊢
  have y22 : Y2 < 2 ^ 64 := by omega
  have y3 : Y2 + Y2 / 16 < 2 ^ 64 := by omega
  rw [s4 Y2 y22, lN_add, wb_and y3 k3, hP]
  generalize pkN X 8 = Z at t1 t2 t3 t4 t5 t6 t7 ⊢
  have z1 : Z < 2 ^ 64 := by omega
  have z2 : Z + V2 < 2 ^ 64 := by omega
  rw [s8 Z z1, t2, lN_add, s16 _ z2, t4, lN_add, s32 _ t5, t6, lN_add, lN_i, pk_and (nI (Z + V2 + V3 + V4)) (m := 127) 7 (by decide)]
  have e32 : (nI (Z + V2 + V3 + V4)).toBitVec.toNat = (Z + V2 + V3 + V4) % 2 ^ 32 := rfl
  rw [e32]
  congr 2
  omega
theorem bitL_N {X : Nat} (hX : X < 2 ^ 64) (m : Nat) : bitL (lN X) m = X.testBit m := by
  unfold bitL
  rw [wb_tb]
  show (BitVec.ofNat 64 X).toNat.testBit m = _
  rw [BitVec.toNat_ofNat, Nat.mod_eq_of_lt hX]
def pcB (x : Int64) : Nat → Nat
  | 0 => 0
  | m + 1 => pcB x m + (if bitL x m then 1 else 0)
theorem pcB_N {X : Nat} (hX : X < 2 ^ 64) : ∀ n, pcB (lN X) n = pcN X n
  | 0 => rfl
  | n + 1 => by
    show pcB (lN X) n + (if bitL (lN X) n then 1 else 0) = _
    rw [pcB_N hX n, bitL_N hX]
    rfl
theorem bitCount_eq (M : Mem) (x : Int64) : f_X22_bitCount M x = some (nI (pcB x 64)) := by
  obtain ⟨X, hX, rfl⟩ := wb_of x
  rw [bitCount_N M hX, pcB_N hX]
/-- one bit more -/
theorem bitL_or {x : Int64} {k m : Nat} (hk : k < 64) (hm : m < 64) : bitL (x ||| ((1 : Int64) <<< ((nI k).toInt64 &&& 63))) m = (bitL x m || decide (m = k)) := by
  have e : (1 : Int64) <<< ((nI k).toInt64 &&& 63) = lN (2 ^ k) := by
    rw [show (1 : Int64) = lN 1 from rfl, wb_shl 1 hk, Nat.one_mul]
  have h2 : 2 ^ k < 2 ^ 64 := wb_lt2 hk
  obtain ⟨X, hX, rfl⟩ := wb_of x
  rw [e, wb_or hX h2, bitL_N (Nat.or_lt_two_pow hX h2), bitL_N hX, Nat.testBit_or, Nat.testBit_two_pow]
  congr 1
  by_cases z : m = k
  · simp [z]
  · have : ¬ k = m := fun y => z y.symm
    simp [z, this]
theorem pcB_cong {x y : Int64} : ∀ n, (∀ m, m < n → bitL x m = bitL y m) → pcB x n = pcB y n
  | 0, _ => rfl
  | n + 1, h => by
    show pcB x n + (if bitL x n then 1 else 0) = pcB y n + (if bitL y n then 1 else 0)
    rw [pcB_cong n (fun m hm => h m (by omega)), h n (by omega)]
theorem pcB_set {x y : Int64} {k : Nat} (hx : bitL x k = false) (hy : bitL y k = true) : ∀ n, k < n → (∀ m, m < n → m ≠ k → bitL y m = bitL x m) → pcB y n = pcB x n + 1
  | 0, h, _ => by omega
  | n + 1, h, e => by
    show pcB y n + (if bitL y n then 1 else 0) = pcB x n + (if bitL x n then 1 else 0) + 1
    by_cases q : n = k
    · subst q
      rw [pcB_cong n (fun m hm => e m (by omega) (by omega)), hx, hy]
      rfl
    · rw [pcB_set hx hy n (by omega) (fun m hm z => e m (by omega) z), e n (by omega) q]
      omega
