/-! BITS COUNTED. The rows wb_ were taken from the kit's laws of bits (a starting text). -/
theorem wb_tb (n : Nat) : (lN n).toBitVec = BitVec.ofNat 64 n := rfl
theorem wb_inj {a b : Int64} (h : a.toBitVec = b.toBitVec) : a = b := Int64.toBitVec_inj.mp h
theorem wb_tn {n : Nat} (h : n < 2 ^ 64) : (lN n).toBitVec.toNat = n := by rw [wb_tb, BitVec.toNat_ofNat, Nat.mod_eq_of_lt h]
theorem wb_of (x : Int64) : ∃ n, n < 2 ^ 64 ∧ x = lN n := ⟨x.toBitVec.toNat, x.toBitVec.isLt, wb_inj (by rw [wb_tb]; simp)⟩
theorem wb_c : ∀ k, k < 64 → ((nI k).toInt64 &&& 63) = lN k := by decide +kernel
theorem wb_cu : ∀ k, k < 64 → ((nI k).toInt64.toUInt64 &&& Int64.toUInt64 63) = UInt64.ofNat k := by decide +kernel
theorem wb_sm : ∀ k, k < 64 → (BitVec.ofNat 64 k).smod 64 = BitVec.ofNat 64 k := by decide +kernel
theorem wb_pw {a b : Nat} (h : a ≤ b) : 2 ^ b = 2 ^ a * 2 ^ (b - a) := by rw [← Nat.pow_add]; congr 1; omega
theorem wb_lt2 {a b : Nat} (h : a < b) : 2 ^ a < 2 ^ b := Nat.pow_lt_pow_right (by decide) h
theorem wb_shr {n k : Nat} (hn : n < 2 ^ 64) (hk : k < 64) : ((lN n).toUInt64 >>> ((nI k).toInt64.toUInt64 &&& Int64.toUInt64 63)).toInt64 = lN (n / 2 ^ k) := by
  rw [wb_cu k hk]
  apply wb_inj
  apply BitVec.eq_of_toNat_eq
  show ((lN n).toUInt64 >>> UInt64.ofNat k).toNat = (BitVec.ofNat 64 _).toNat
  have h1 : (UInt64.ofNat k).toNat = k := by
    show (BitVec.ofNat 64 k).toNat = k
    rw [BitVec.toNat_ofNat, Nat.mod_eq_of_lt (by omega)]
  have h2 : (lN n).toUInt64.toNat = n := wb_tn hn
  rw [UInt64.toNat_shiftRight, h1, h2, Nat.mod_eq_of_lt hk, Nat.shiftRight_eq_div_pow, BitVec.toNat_ofNat, Nat.mod_eq_of_lt (Nat.lt_of_le_of_lt (Nat.div_le_self _ _) hn)]
theorem wb_shl (n : Nat) {k : Nat} (hk : k < 64) : lN n <<< ((nI k).toInt64 &&& 63) = lN (n * 2 ^ k) := by
  rw [wb_c k hk]
  apply wb_inj
  rw [Int64.toBitVec_shiftLeft, wb_tb, wb_tb, wb_tb, wb_sm k hk]
  apply BitVec.eq_of_toNat_eq
  rw [BitVec.shiftLeft_eq', BitVec.toNat_shiftLeft, BitVec.toNat_ofNat, BitVec.toNat_ofNat, BitVec.toNat_ofNat, Nat.mod_eq_of_lt (show k < 2 ^ 64 by omega), Nat.shiftLeft_eq, Nat.mul_mod, Nat.mod_mod, ← Nat.mul_mod]
theorem wb_and {a b : Nat} (ha : a < 2 ^ 64) (hb : b < 2 ^ 64) : lN a &&& lN b = lN (a &&& b) := by
  apply wb_inj
  rw [Int64.toBitVec_and, wb_tb, wb_tb, wb_tb]
  apply BitVec.eq_of_toNat_eq
  rw [BitVec.toNat_and, BitVec.toNat_ofNat, BitVec.toNat_ofNat, BitVec.toNat_ofNat, Nat.mod_eq_of_lt ha, Nat.mod_eq_of_lt hb, Nat.mod_eq_of_lt (Nat.and_lt_two_pow _ hb)]
theorem wb_or {a b : Nat} (ha : a < 2 ^ 64) (hb : b < 2 ^ 64) : lN a ||| lN b = lN (a ||| b) := by
  apply wb_inj
  rw [Int64.toBitVec_or, wb_tb, wb_tb, wb_tb]
  apply BitVec.eq_of_toNat_eq
  rw [BitVec.toNat_or, BitVec.toNat_ofNat, BitVec.toNat_ofNat, BitVec.toNat_ofNat, Nat.mod_eq_of_lt ha, Nat.mod_eq_of_lt hb, Nat.mod_eq_of_lt (Nat.or_lt_two_pow ha hb)]
def pcN (X : Nat) : Nat → Nat
  | 0 => 0
  | m + 1 => pcN X m + (if X.testBit m then 1 else 0)
theorem pcN_s {X m : Nat} : pcN X (m + 1) = pcN X m + (if X.testBit m then 1 else 0) := rfl
theorem pcN_cong {X Y : Nat} : ∀ n, (∀ i, i < n → X.testBit i = Y.testBit i) → pcN X n = pcN Y n
  | 0, _ => rfl
  | n + 1, h => by rw [pcN_s, pcN_s, pcN_cong n (fun i hi => h i (by omega)), h n (by omega)]
theorem pcN_split {x b : Nat} (hb : b < 2 ^ 8) : ∀ n, pcN (2 ^ 8 * x + b) (8 + n) = pcN b 8 + pcN x n
  | 0 => pcN_cong 8 (fun i hi => by rw [Nat.testBit_two_pow_mul_add _ hb, if_pos hi])
  | n + 1 => by
    rw [← Nat.add_assoc, pcN_s, pcN_split hb n, pcN_s, Nat.testBit_two_pow_mul_add _ hb, if_neg (by omega), show 8 + n - 8 = n by omega]
    omega
theorem and_split {x y b c : Nat} (hb : b < 2 ^ 8) (hc : c < 2 ^ 8) : (2 ^ 8 * x + b) &&& (2 ^ 8 * y + c) = 2 ^ 8 * (x &&& y) + (b &&& c) := by
  apply Nat.eq_of_testBit_eq
  intro i
  rw [Nat.testBit_and, Nat.testBit_two_pow_mul_add _ hb, Nat.testBit_two_pow_mul_add _ hc, Nat.testBit_two_pow_mul_add _ (Nat.and_lt_two_pow _ hc)]
  by_cases h : i < 8
  · rw [if_pos h, if_pos h, if_pos h, Nat.testBit_and]
  · rw [if_neg h, if_neg h, if_neg h, Nat.testBit_and]
def mkN (c : Nat) : Nat → Nat
  | 0 => 0
  | n + 1 => 2 ^ 8 * mkN c n + c
def fA (X p q : Nat) : Nat := ((X - (X / 2 &&& p)) &&& q) + ((X - (X / 2 &&& p)) / 4 &&& q)
def fB (Y p : Nat) : Nat := (Y + Y / 16) &&& p
theorem q_1 : ∀ b, b < 256 → ∀ t, t < 2 → (128 * t + b / 2) &&& 85 = b / 2 &&& 85 := by decide +kernel
theorem q_2 : ∀ b, b < 256 → ∀ t, t < 4 → (64 * t + b / 4) &&& 51 = b / 4 &&& 51 := by decide +kernel
theorem q_3 : ∀ b, b < 256 → fA b 85 51 % 16 ≤ 4 ∧ fA b 85 51 / 16 ≤ 4 := by decide +kernel
theorem q_4 : ∀ c, c < 69 → ∀ t, t < 5 → (c + 16 * t + c / 16) &&& 15 = (c + c / 16) &&& 15 := by decide +kernel
theorem q_5 : ∀ b, b < 256 → fB (fA b 85 51) 15 = pcN b 8 := by decide +kernel
theorem fA_split {x p q b : Nat} (hb : b < 256) : fA (2 ^ 8 * x + b) (2 ^ 8 * p + 85) (2 ^ 8 * q + 51) = 2 ^ 8 * fA x p q + fA b 85 51 := by
  have h1 : (2 ^ 8 * x + b) / 2 = 2 ^ 8 * (x / 2) + (128 * (x % 2) + b / 2) := by omega
  have h2 : (2 ^ 8 * x + b) / 2 &&& (2 ^ 8 * p + 85) = 2 ^ 8 * (x / 2 &&& p) + (b / 2 &&& 85) := by
    rw [h1, and_split (by omega) (by decide), q_1 b hb _ (by omega)]
  have l1 : (x / 2 &&& p) ≤ x / 2 := Nat.and_le_left
  have l2 : (b / 2 &&& 85) ≤ b / 2 := Nat.and_le_left
  have h3 : 2 ^ 8 * x + b - ((2 ^ 8 * x + b) / 2 &&& (2 ^ 8 * p + 85)) = 2 ^ 8 * (x - (x / 2 &&& p)) + (b - (b / 2 &&& 85)) := by
    rw [h2]
    omega
  have l3 : b - (b / 2 &&& 85) < 2 ^ 8 := by omega
  unfold fA
  rw [h3]
  generalize hy : x - (x / 2 &&& p) = y
  generalize hc : b - (b / 2 &&& 85) = c at l3 ⊢
  have h4 : (2 ^ 8 * y + c) / 4 = 2 ^ 8 * (y / 4) + (64 * (y % 4) + c / 4) := by omega
  rw [h4, and_split l3 (by decide), and_split (by omega) (by decide), q_2 c (by omega) _ (by omega)]
  omega
theorem fB_split {y p c : Nat} (h1 : c % 16 ≤ 4) (h2 : c / 16 ≤ 4) (h3 : y % 16 ≤ 4) : fB (2 ^ 8 * y + c) (2 ^ 8 * p + 15) = 2 ^ 8 * fB y p + fB c 15 := by
  have h4 : 2 ^ 8 * y + c + (2 ^ 8 * y + c) / 16 = 2 ^ 8 * (y + y / 16) + (c + 16 * (y % 16) + c / 16) := by omega
  unfold fB
  rw [h4, and_split (by omega) (by decide), q_4 c (by omega) _ (by omega)]
def pkN (X : Nat) : Nat → Nat
  | 0 => 0
  | n + 1 => 2 ^ 8 * pkN (X / 256) n + pcN (X % 256) 8
theorem pk_all : ∀ n X, X < 256 ^ n → fA X (mkN 85 n) (mkN 51 n) % 16 ≤ 4 ∧ fB (fA X (mkN 85 n) (mkN 51 n)) (mkN 15 n) = pkN X n
  | 0, X, h => by
    have : X = 0 := by simpa using h
    subst this
    decide
  | n + 1, X, h => by
    have hx : X = 2 ^ 8 * (X / 256) + X % 256 := by omega
    have hl : X / 256 < 256 ^ n := by
      rw [Nat.pow_succ] at h
      exact Nat.div_lt_of_lt_mul (by rw [Nat.mul_comm]; exact h)
    have hb : X % 256 < 256 := Nat.mod_lt _ (by decide)
    obtain ⟨i1, i2⟩ := pk_all n (X / 256) hl
    have e : fA X (mkN 85 (n + 1)) (mkN 51 (n + 1)) = 2 ^ 8 * fA (X / 256) (mkN 85 n) (mkN 51 n) + fA (X % 256) 85 51 := by
      have := fA_split (x := X / 256) (p := mkN 85 n) (q := mkN 51 n) hb
      rw [← hx] at this
      exact this
    have b := q_3 (X % 256) hb
    rw [e]
    refine ⟨by omega, ?_⟩
    show fB _ (2 ^ 8 * mkN 15 n + 15) = _
    rw [fB_split b.1 b.2 i1, i2, q_5 _ hb]
    rfl
theorem pc8_le : ∀ n X, pcN X n ≤ n
  | 0, _ => Nat.le_refl _
  | n + 1, X => by
    have := pc8_le n X
    rw [pcN_s]
    split <;> omega
theorem pcN_b (X n : Nat) : pcN X (8 + n) = pcN (X % 256) 8 + pcN (X / 256) n := by
  have := pcN_split (x := X / 256) (b := X % 256) (by omega) n
  rw [show 2 ^ 8 * (X / 256) + X % 256 = X by omega] at this
  exact this
theorem and_lt64 {a b : Nat} (hb : b < 2 ^ 64) : (a &&& b) < 2 ^ 64 := Nat.and_lt_two_pow _ hb
theorem bitCount_N (M : Mem) {X : Nat} (hX : X < 2 ^ 64) : f_X22_bitCount M (lN X) = some (nI (pcN X 64)) := by
  have s1 : ∀ Y, Y < 2 ^ 64 → ((lN Y).toUInt64 >>> ((1 : Int32).toInt64.toUInt64 &&& Int64.toUInt64 63)).toInt64 = lN (Y / 2) := fun Y h => wb_shr (k := 1) h (by decide)
  have s2 : ∀ Y, Y < 2 ^ 64 → ((lN Y).toUInt64 >>> ((2 : Int32).toInt64.toUInt64 &&& Int64.toUInt64 63)).toInt64 = lN (Y / 4) := fun Y h => wb_shr (k := 2) h (by decide)
  have s4 : ∀ Y, Y < 2 ^ 64 → ((lN Y).toUInt64 >>> ((4 : Int32).toInt64.toUInt64 &&& Int64.toUInt64 63)).toInt64 = lN (Y / 16) := fun Y h => wb_shr (k := 4) h (by decide)
  have s8 : ∀ Y, Y < 2 ^ 64 → ((lN Y).toUInt64 >>> ((8 : Int32).toInt64.toUInt64 &&& Int64.toUInt64 63)).toInt64 = lN (Y / 256) := fun Y h => wb_shr (k := 8) h (by decide)
  have s16 : ∀ Y, Y < 2 ^ 64 → ((lN Y).toUInt64 >>> ((16 : Int32).toInt64.toUInt64 &&& Int64.toUInt64 63)).toInt64 = lN (Y / 65536) := fun Y h => wb_shr (k := 16) h (by decide)
  have s32 : ∀ Y, Y < 2 ^ 64 → ((lN Y).toUInt64 >>> ((32 : Int32).toInt64.toUInt64 &&& Int64.toUInt64 63)).toInt64 = lN (Y / 4294967296) := fun Y h => wb_shr (k := 32) h (by decide)
  have m1 : (6148914691236517205 : Int64) = lN (mkN 85 8) := by decide +kernel
  have m2 : (3689348814741910323 : Int64) = lN (mkN 51 8) := by decide +kernel
  have m3 : (1085102592571150095 : Int64) = lN (mkN 15 8) := by decide +kernel
  have k1 : mkN 85 8 = 6148914691236517205 := by decide +kernel
  have k2 : mkN 51 8 = 3689348814741910323 := by decide +kernel
  have k3 : mkN 15 8 = 1085102592571150095 := by decide +kernel
  have an : ∀ {a b : Nat}, a < 2 ^ 64 → b < 2 ^ 64 → lN a &&& lN b = lN (a &&& b) := fun h1 h2 => wb_and h1 h2
  obtain ⟨-, hP⟩ := pk_all 8 X (by have : (256 : Nat) ^ 8 = 2 ^ 64 := by decide
                                   omega)
  have l1 : (X / 2 &&& mkN 85 8) ≤ X / 2 := Nat.and_le_left
  have l2 : ((X - (X / 2 &&& mkN 85 8)) &&& mkN 51 8) ≤ mkN 51 8 := Nat.and_le_right
  have l3 : ((X - (X / 2 &&& mkN 85 8)) / 4 &&& mkN 51 8) ≤ mkN 51 8 := Nat.and_le_right
  unfold f_X22_bitCount
  rw [nx_t, nx_t, nx_t, nx_t, nx_t, nx_t, nx_t, nx_t, nx_t, m1, m2, m3, s1 X hX, an (by omega) (by omega), lN_sub (show (X / 2 &&& mkN 85 8) ≤ X by omega), an (by omega) (by omega), s2 _ (by omega), an (by omega) (by omega), lN_add]
  have hA : (X - (X / 2 &&& mkN 85 8) &&& mkN 51 8) + ((X - (X / 2 &&& mkN 85 8)) / 4 &&& mkN 51 8) = fA X (mkN 85 8) (mkN 51 8) := rfl
  have lA : fA X (mkN 85 8) (mkN 51 8) ≤ 7378697629483820646 := by
    rw [← hA]
    omega
  rw [hA, s4 _ (by omega), lN_add, an (by omega) (by omega)]
  have hB : (fA X (mkN 85 8) (mkN 51 8) + fA X (mkN 85 8) (mkN 51 8) / 16) &&& mkN 15 8 = fB (fA X (mkN 85 8) (mkN 51 8)) (mkN 15 8) := rfl
  rw [hB, hP]
  have e0 : pcN X 64 = pcN (X % 256) 8 + (pcN (X / 256 % 256) 8 + (pcN (X / 256 / 256 % 256) 8 + (pcN (X / 256 / 256 / 256 % 256) 8 + (pcN (X / 256 / 256 / 256 / 256 % 256) 8 + (pcN (X / 256 / 256 / 256 / 256 / 256 % 256) 8 + (pcN (X / 256 / 256 / 256 / 256 / 256 / 256 % 256) 8 + (pcN (X / 256 / 256 / 256 / 256 / 256 / 256 / 256 % 256) 8 + 0))))))) := by
    rw [show 64 = 8 + 56 from rfl, pcN_b, show 56 = 8 + 48 from rfl, pcN_b, show 48 = 8 + 40 from rfl, pcN_b, show 40 = 8 + 32 from rfl, pcN_b, show 32 = 8 + 24 from rfl, pcN_b, show 24 = 8 + 16 from rfl, pcN_b, show 16 = 8 + 8 from rfl, pcN_b, show (8 : Nat) = 8 + 0 from rfl, pcN_b]
    rfl
  have e1 : pkN X 8 = 2 ^ 8 * (2 ^ 8 * (2 ^ 8 * (2 ^ 8 * (2 ^ 8 * (2 ^ 8 * (2 ^ 8 * (2 ^ 8 * 0 + pcN (X / 256 / 256 / 256 / 256 / 256 / 256 / 256 % 256) 8) + pcN (X / 256 / 256 / 256 / 256 / 256 / 256 % 256) 8) + pcN (X / 256 / 256 / 256 / 256 / 256 % 256) 8) + pcN (X / 256 / 256 / 256 / 256 % 256) 8) + pcN (X / 256 / 256 / 256 % 256) 8) + pcN (X / 256 / 256 % 256) 8) + pcN (X / 256 % 256) 8) + pcN (X % 256) 8 := rfl
  rw [e0, e1]
  have c0 := pc8_le 8 (X % 256)
  have c1 := pc8_le 8 (X / 256 % 256)
  have c2 := pc8_le 8 (X / 256 / 256 % 256)
  have c3 := pc8_le 8 (X / 256 / 256 / 256 % 256)
  have c4 := pc8_le 8 (X / 256 / 256 / 256 / 256 % 256)
  have c5 := pc8_le 8 (X / 256 / 256 / 256 / 256 / 256 % 256)
  have c6 := pc8_le 8 (X / 256 / 256 / 256 / 256 / 256 / 256 % 256)
  have c7 := pc8_le 8 (X / 256 / 256 / 256 / 256 / 256 / 256 / 256 % 256)
  generalize pcN (X % 256) 8 = p0 at *
  generalize pcN (X / 256 % 256) 8 = p1 at *
  generalize pcN (X / 256 / 256 % 256) 8 = p2 at *
  generalize pcN (X / 256 / 256 / 256 % 256) 8 = p3 at *
  generalize pcN (X / 256 / 256 / 256 / 256 % 256) 8 = p4 at *
  generalize pcN (X / 256 / 256 / 256 / 256 / 256 % 256) 8 = p5 at *
  generalize pcN (X / 256 / 256 / 256 / 256 / 256 / 256 % 256) 8 = p6 at *
  generalize pcN (X / 256 / 256 / 256 / 256 / 256 / 256 / 256 % 256) 8 = p7 at *
  clear hP e0 e1 hA hB lA l1 l2 l3 s1 s2 s4 m1 m2 m3 k1 k2 k3 an
  have r8 : ∀ Z A : Nat, Z = A → Z < 2 ^ 64 → (lN Z).toUInt64 = (lN Z).toUInt64 := fun _ _ _ _ => rfl
  generalize hZ : 2 ^ 8 * (2 ^ 8 * (2 ^ 8 * (2 ^ 8 * (2 ^ 8 * (2 ^ 8 * (2 ^ 8 * (2 ^ 8 * 0 + p7) + p6) + p5) + p4) + p3) + p2) + p1) + p0 = Z
  have z1 : Z / 256 = p1 + 256 * p2 + 65536 * p3 + 16777216 * p4 + 4294967296 * p5 + 1099511627776 * p6 + 281474976710656 * p7 := by omega
  have y1 : Z + Z / 256 = (p0 + p1) + 256 * (p1 + p2) + 65536 * (p2 + p3) + 16777216 * (p3 + p4) + 4294967296 * (p4 + p5) + 1099511627776 * (p5 + p6) + 281474976710656 * (p6 + p7) + 72057594037927936 * p7 := by omega
  rw [s8 Z (by omega), lN_add, s16 _ (by omega), lN_add]
  generalize hY : Z + Z / 256 = Y at *
  have z2 : Y / 65536 = (p2 + p3) + 256 * (p3 + p4) + 65536 * (p4 + p5) + 16777216 * (p5 + p6) + 4294967296 * (p6 + p7) + 1099511627776 * p7 := by omega
  have y2 : Y + Y / 65536 = (p0 + p1 + p2 + p3) + 256 * (p1 + p2 + p3 + p4) + 65536 * (p2 + p3 + p4 + p5) + 16777216 * (p3 + p4 + p5 + p6) + 4294967296 * (p4 + p5 + p6 + p7) + 1099511627776 * (p5 + p6 + p7) + 281474976710656 * (p6 + p7) + 72057594037927936 * p7 := by omega
  rw [s32 _ (by omega), lN_add, lN_i]
  generalize hV : Y + Y / 65536 = V at *
  have z3 : V / 4294967296 = (p4 + p5 + p6 + p7) + 256 * (p5 + p6 + p7) + 65536 * (p6 + p7) + 16777216 * p7 := by omega
  rw [pk_and (nI (V + V / 4294967296)) (m := 127) 7 (by decide)]
  have e32 : (nI (V + V / 4294967296)).toBitVec.toNat = (V + V / 4294967296) % 2 ^ 32 := rfl
  rw [e32]
  congr 2
  omega
theorem bitL_N {X : Nat} (hX : X < 2 ^ 64) (m : Nat) : bitL (lN X) m = X.testBit m := by
  unfold bitL
  rw [wb_tb]
  show (BitVec.ofNat 64 X).toNat.testBit m = _
  rw [BitVec.toNat_ofNat, Nat.mod_eq_of_lt hX]
def pcB (x : Int64) : Nat → Nat
  | 0 => 0
  | m + 1 => pcB x m + (if bitL x m then 1 else 0)
theorem pcB_N {X : Nat} (hX : X < 2 ^ 64) : ∀ n, pcB (lN X) n = pcN X n
  | 0 => rfl
  | n + 1 => by
    show pcB (lN X) n + (if bitL (lN X) n then 1 else 0) = _
    rw [pcB_N hX n, bitL_N hX]
    rfl
theorem bitCount_eq (M : Mem) (x : Int64) : f_X22_bitCount M x = some (nI (pcB x 64)) := by
  obtain ⟨X, hX, rfl⟩ := wb_of x
  rw [bitCount_N M hX, pcB_N hX]
/-- one bit more -/
theorem bitL_or {x : Int64} {k m : Nat} (hk : k < 64) (hm : m < 64) : bitL (x ||| ((1 : Int64) <<< ((nI k).toInt64 &&& 63))) m = (bitL x m || decide (m = k)) := by
  have e : (1 : Int64) <<< ((nI k).toInt64 &&& 63) = lN (2 ^ k) := by
    rw [show (1 : Int64) = lN 1 from rfl, wb_shl 1 hk, Nat.one_mul]
  have h2 : 2 ^ k < 2 ^ 64 := wb_lt2 hk
  obtain ⟨X, hX, rfl⟩ := wb_of x
  rw [e, wb_or hX h2, bitL_N (Nat.or_lt_two_pow hX h2), bitL_N hX, Nat.testBit_or, Nat.testBit_two_pow]
  congr 1
  by_cases z : m = k
  · simp [z]
  · have : ¬ k = m := fun y => z y.symm
    simp [z, this]
theorem pcB_cong {x y : Int64} : ∀ n, (∀ m, m < n → bitL x m = bitL y m) → pcB x n = pcB y n
  | 0, _ => rfl
  | n + 1, h => by
    show pcB x n + (if bitL x n then 1 else 0) = pcB y n + (if bitL y n then 1 else 0)
    rw [pcB_cong n (fun m hm => h m (by omega)), h n (by omega)]
theorem pcB_set {x y : Int64} {k : Nat} (hx : bitL x k = false) (hy : bitL y k = true) : ∀ n, k < n → (∀ m, m < n → m ≠ k → bitL y m = bitL x m) → pcB y n = pcB x n + 1
  | 0, h, _ => by omega
  | n + 1, h, e => by
    show pcB y n + (if bitL y n then 1 else 0) = pcB x n + (if bitL x n then 1 else 0) + 1
    by_cases q : n = k
    · subst q
      rw [pcB_cong n (fun m hm => e m (by omega) (by omega)), hx, hy]
      rfl
    · rw [pcB_set hx hy n (by omega) (fun m hm z => e m (by omega) z), e n (by omega) q]
      omega
