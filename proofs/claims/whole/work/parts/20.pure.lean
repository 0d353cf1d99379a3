/-! PURE: the references as the constructors lay them; guards; small numbers -/
def CRL : List (List (Option Nat)) := [[some 1, some 3, some 42, some 81, some 82, some 83, some 84, none, some 142, some 146], [some 2], [], [none, none, none, none, none, none, some 4, some 5, some 6], [some 7, some 8, some 9], [some 10, some 11, some 12, some 13, some 14, some 15, some 16, some 17], [some 18, some 22, some 26, some 30, some 34, some 38], [], [], [], [], [], [], [], [], [], [], [], [none, none, none, none, some 19, some 20, some 21], [], [], [], [none, none, none, none, some 23, some 24, some 25], [], [], [], [none, none, none, none, some 27, some 28, some 29], [], [], [], [none, none, none, none, some 31, some 32, some 33], [], [], [], [none, none, none, none, some 35, some 36, some 37], [], [], [], [none, none, none, none, some 39, some 40, some 41], [], [], [], [none, none, none, none, none, none, some 43, some 44, some 45], [some 46, some 47, some 48], [some 49, some 50, some 51, some 52, some 53, some 54, some 55, some 56], [some 57, some 61, some 65, some 69, some 73, some 77], [], [], [], [], [], [], [], [], [], [], [], [none, none, none, none, some 58, some 59, some 60], [], [], [], [none, none, none, none, some 62, some 63, some 64], [], [], [], [none, none, none, none, some 66, some 67, some 68], [], [], [], [none, none, none, none, some 70, some 71, some 72], [], [], [], [none, none, none, none, some 74, some 75, some 76], [], [], [], [none, none, none, none, some 78, some 79, some 80], [], [], [], [some 149, some 188, some 227], [], [some 266, some 268, some 270, some 272], [some 85, some 99, some 108, some 117, none, some 124, some 125, some 126, some 127, some 128, none, some 129, some 130, some 131, some 132, some 133, some 134, some 141], [some 86, some 90], [some 87, some 88, some 89], [], [], [], [some 91, some 92, some 93, some 94, some 95, some 96, some 97, some 98], [], [], [], [], [], [], [], [], [some 100, some 101, some 102, some 103, some 104, some 105, some 106, some 107], [], [], [], [], [], [], [], [], [some 109, some 110, some 111, some 112, some 113, some 114, some 115, some 116], [], [], [], [], [], [], [], [], [some 118, some 119, some 120, some 121, some 122, some 123], [], [], [], [], [], [], [], [], [], [], [], [], [], [], [], [], [some 135, some 136, some 137, some 138, some 139, some 140], [], [], [], [], [], [], [], [none, none, some 143, none, none, none, some 144, some 145], [], [], [], [none, none, some 147, some 148], [], [], [none, none, none, none, none, none, some 150, some 151, some 152], [some 153, some 154, some 155], [some 156, some 157, some 158, some 159, some 160, some 161, some 162, some 163], [some 164, some 168, some 172, some 176, some 180, some 184], [], [], [], [], [], [], [], [], [], [], [], [none, none, none, none, some 165, some 166, some 167], [], [], [], [none, none, none, none, some 169, some 170, some 171], [], [], [], [none, none, none, none, some 173, some 174, some 175], [], [], [], [none, none, none, none, some 177, some 178, some 179], [], [], [], [none, none, none, none, some 181, some 182, some 183], [], [], [], [none, none, none, none, some 185, some 186, some 187], [], [], [], [none, none, none, none, none, none, some 189, some 190, some 191], [some 192, some 193, some 194], [some 195, some 196, some 197, some 198, some 199, some 200, some 201, some 202], [some 203, some 207, some 211, some 215, some 219, some 223], [], [], [], [], [], [], [], [], [], [], [], [none, none, none, none, some 204, some 205, some 206], [], [], [], [none, none, none, none, some 208, some 209, some 210], [], [], [], [none, none, none, none, some 212, some 213, some 214], [], [], [], [none, none, none, none, some 216, some 217, some 218], [], [], [], [none, none, none, none, some 220, some 221, some 222], [], [], [], [none, none, none, none, some 224, some 225, some 226], [], [], [], [none, none, none, none, none, none, some 228, some 229, some 230], [some 231, some 232, some 233], [some 234, some 235, some 236, some 237, some 238, some 239, some 240, some 241], [some 242, some 246, some 250, some 254, some 258, some 262], [], [], [], [], [], [], [], [], [], [], [], [none, none, none, none, some 243, some 244, some 245], [], [], [], [none, none, none, none, some 247, some 248, some 249], [], [], [], [none, none, none, none, some 251, some 252, some 253], [], [], [], [none, none, none, none, some 255, some 256, some 257], [], [], [], [none, none, none, none, some 259, some 260, some 261], [], [], [], [none, none, none, none, some 263, some 264, some 265], [], [], [], [none, none, none, some 267], [], [none, none, none, some 269], [], [none, none, none, some 271], [], [none, none, none, some 273], []]
def CRf (a k : Nat) : Option Nat := (CRL.getD a []).getD k none
/-- the fields that are written again -/
def mutB (a k : Nat) : Bool := (a == 0 && k == 1) || (a == 0 && k == 2) || (a == 84 && k == 10) || (a == 142 && k == 3) || (a == 142 && k == 4) || (a == 142 && k == 5)
/-- the class side's references, but for the fields that are written again -/
def CR (M : Mem) : Prop := ∀ a k, mutB a k = false → gR M a k = CRf a k
def RRL : List (List (Option Nat)) := [[none, some 1, some 2, some 3, some 4, some 5, none, none, none, none, none, none, none, none, none, none, some 6, some 7, some 8, some 9, some 10, some 11, some 12, some 13, some 14, none, none, none, none, some 15, some 16, some 17, some 18, some 19, some 20, some 21, some 22, some 23, some 24, some 25, some 26, some 27, some 28, some 29, some 30, some 31, none, none, none, none, some 32, some 33, some 34, some 35], [], [], [], [], [], [], [], [], [], [], [], [], [], [], [], [], [], [], [], [], [], [], [], [], [], [], [], [], [], [], [], [], [], [], []]
def RRf (a k : Nat) : Option Nat := (RRL.getD a []).getD k none
def RR (M : Mem) : Prop := ∀ a k, gR M a k = RRf a k
theorem CR.I {M : Mem} {a k : Nat} {v : Int32} (h : CR M) : CR (sI M a k v) := h
theorem CR.L {M : Mem} {a k : Nat} {v : Int64} (h : CR M) : CR (sL M a k v) := h
theorem CR.cI {M : Mem} {a b c d e : Nat} (h : CR M) : CR (cpI M a b c d e) := h
theorem CR.cL {M : Mem} {a b c d e : Nat} (h : CR M) : CR (cpL M a b c d e) := h
theorem RR.I {M : Mem} {a k : Nat} {v : Int32} (h : RR M) : RR (sI M a k v) := h
theorem RR.L {M : Mem} {a k : Nat} {v : Int64} (h : RR M) : RR (sL M a k v) := h
theorem rr_1 {M : Mem} (h : RR M) : gR M 0 1 = some 1 := h 0 1
theorem rr_2 {M : Mem} (h : RR M) : gR M 0 2 = some 2 := h 0 2
theorem rr_3 {M : Mem} (h : RR M) : gR M 0 3 = some 3 := h 0 3
theorem rr_4 {M : Mem} (h : RR M) : gR M 0 4 = some 4 := h 0 4
theorem rr_5 {M : Mem} (h : RR M) : gR M 0 5 = some 5 := h 0 5
theorem rr_16 {M : Mem} (h : RR M) : gR M 0 16 = some 6 := h 0 16
theorem rr_17 {M : Mem} (h : RR M) : gR M 0 17 = some 7 := h 0 17
theorem rr_18 {M : Mem} (h : RR M) : gR M 0 18 = some 8 := h 0 18
theorem rr_19 {M : Mem} (h : RR M) : gR M 0 19 = some 9 := h 0 19
theorem rr_20 {M : Mem} (h : RR M) : gR M 0 20 = some 10 := h 0 20
theorem rr_21 {M : Mem} (h : RR M) : gR M 0 21 = some 11 := h 0 21
theorem rr_22 {M : Mem} (h : RR M) : gR M 0 22 = some 12 := h 0 22
theorem rr_23 {M : Mem} (h : RR M) : gR M 0 23 = some 13 := h 0 23
theorem rr_24 {M : Mem} (h : RR M) : gR M 0 24 = some 14 := h 0 24
theorem rr_29 {M : Mem} (h : RR M) : gR M 0 29 = some 15 := h 0 29
theorem rr_30 {M : Mem} (h : RR M) : gR M 0 30 = some 16 := h 0 30
theorem rr_31 {M : Mem} (h : RR M) : gR M 0 31 = some 17 := h 0 31
theorem rr_32 {M : Mem} (h : RR M) : gR M 0 32 = some 18 := h 0 32
theorem rr_33 {M : Mem} (h : RR M) : gR M 0 33 = some 19 := h 0 33
theorem rr_34 {M : Mem} (h : RR M) : gR M 0 34 = some 20 := h 0 34
theorem rr_35 {M : Mem} (h : RR M) : gR M 0 35 = some 21 := h 0 35
theorem rr_36 {M : Mem} (h : RR M) : gR M 0 36 = some 22 := h 0 36
theorem rr_37 {M : Mem} (h : RR M) : gR M 0 37 = some 23 := h 0 37
theorem rr_38 {M : Mem} (h : RR M) : gR M 0 38 = some 24 := h 0 38
theorem rr_39 {M : Mem} (h : RR M) : gR M 0 39 = some 25 := h 0 39
theorem rr_40 {M : Mem} (h : RR M) : gR M 0 40 = some 26 := h 0 40
theorem rr_41 {M : Mem} (h : RR M) : gR M 0 41 = some 27 := h 0 41
theorem rr_42 {M : Mem} (h : RR M) : gR M 0 42 = some 28 := h 0 42
theorem rr_43 {M : Mem} (h : RR M) : gR M 0 43 = some 29 := h 0 43
theorem rr_44 {M : Mem} (h : RR M) : gR M 0 44 = some 30 := h 0 44
theorem rr_45 {M : Mem} (h : RR M) : gR M 0 45 = some 31 := h 0 45
theorem rr_50 {M : Mem} (h : RR M) : gR M 0 50 = some 32 := h 0 50
theorem rr_51 {M : Mem} (h : RR M) : gR M 0 51 = some 33 := h 0 51
theorem rr_52 {M : Mem} (h : RR M) : gR M 0 52 = some 34 := h 0 52
theorem rr_53 {M : Mem} (h : RR M) : gR M 0 53 = some 35 := h 0 53
theorem zR_0 : shR 0 = (11, 54) := by decide +kernel
theorem zR_1 : shR 1 = (100, 4) := by decide +kernel
theorem zR_2 : shR 2 = (100, 4) := by decide +kernel
theorem zR_3 : shR 3 = (101, 240) := by decide +kernel
theorem zR_4 : shR 4 = (101, 60) := by decide +kernel
theorem zR_5 : shR 5 = (103, 2000) := by decide +kernel
theorem zR_6 : shR 6 = (100, 5) := by decide +kernel
theorem zR_7 : shR 7 = (100, 30) := by decide +kernel
theorem zR_8 : shR 8 = (100, 30) := by decide +kernel
theorem zR_9 : shR 9 = (100, 280) := by decide +kernel
theorem zR_10 : shR 10 = (100, 120) := by decide +kernel
theorem zR_11 : shR 11 = (100, 270) := by decide +kernel
theorem zR_12 : shR 12 = (100, 60) := by decide +kernel
theorem zR_13 : shR 13 = (102, 3) := by decide +kernel
theorem zR_14 : shR 14 = (100, 180) := by decide +kernel
theorem zR_15 : shR 15 = (100, 3) := by decide +kernel
theorem zR_16 : shR 16 = (100, 8) := by decide +kernel
theorem zR_17 : shR 17 = (100, 8) := by decide +kernel
theorem zR_18 : shR 18 = (100, 8) := by decide +kernel
theorem zR_19 : shR 19 = (100, 8) := by decide +kernel
theorem zR_20 : shR 20 = (100, 8) := by decide +kernel
theorem zR_21 : shR 21 = (102, 8) := by decide +kernel
theorem zR_22 : shR 22 = (102, 8) := by decide +kernel
theorem zR_23 : shR 23 = (100, 6) := by decide +kernel
theorem zR_24 : shR 24 = (100, 6) := by decide +kernel
theorem zR_25 : shR 25 = (100, 6) := by decide +kernel
theorem zR_26 : shR 26 = (100, 18) := by decide +kernel
theorem zR_27 : shR 27 = (102, 360) := by decide +kernel
theorem zR_28 : shR 28 = (100, 480) := by decide +kernel
theorem zR_29 : shR 29 = (100, 480) := by decide +kernel
theorem zR_30 : shR 30 = (100, 360) := by decide +kernel
theorem zR_31 : shR 31 = (100, 640) := by decide +kernel
theorem zR_32 : shR 32 = (100, 60) := by decide +kernel
theorem zR_33 : shR 33 = (102, 480) := by decide +kernel
theorem zR_34 : shR 34 = (100, 12) := by decide +kernel
theorem zR_35 : shR 35 = (100, 12) := by decide +kernel
theorem oR : oB shR 0 11 = true := by decide +kernel
theorem cr_0_0 {M : Mem} (h : CR M) : gR M 0 0 = some 1 := (h 0 0 rfl).trans (by decide +kernel)
theorem cr_0_3 {M : Mem} (h : CR M) : gR M 0 3 = some 81 := (h 0 3 rfl).trans (by decide +kernel)
theorem cr_0_4 {M : Mem} (h : CR M) : gR M 0 4 = some 82 := (h 0 4 rfl).trans (by decide +kernel)
theorem cr_0_5 {M : Mem} (h : CR M) : gR M 0 5 = some 83 := (h 0 5 rfl).trans (by decide +kernel)
theorem cr_0_6 {M : Mem} (h : CR M) : gR M 0 6 = some 84 := (h 0 6 rfl).trans (by decide +kernel)
theorem cr_0_8 {M : Mem} (h : CR M) : gR M 0 8 = some 142 := (h 0 8 rfl).trans (by decide +kernel)
theorem cr_0_9 {M : Mem} (h : CR M) : gR M 0 9 = some 146 := (h 0 9 rfl).trans (by decide +kernel)
theorem cr_1_0 {M : Mem} (h : CR M) : gR M 1 0 = some 2 := (h 1 0 rfl).trans (by decide +kernel)
theorem cr_84_0 {M : Mem} (h : CR M) : gR M 84 0 = some 85 := (h 84 0 rfl).trans (by decide +kernel)
theorem cr_84_1 {M : Mem} (h : CR M) : gR M 84 1 = some 99 := (h 84 1 rfl).trans (by decide +kernel)
theorem cr_84_2 {M : Mem} (h : CR M) : gR M 84 2 = some 108 := (h 84 2 rfl).trans (by decide +kernel)
theorem cr_84_3 {M : Mem} (h : CR M) : gR M 84 3 = some 117 := (h 84 3 rfl).trans (by decide +kernel)
theorem cr_84_5 {M : Mem} (h : CR M) : gR M 84 5 = some 124 := (h 84 5 rfl).trans (by decide +kernel)
theorem cr_84_6 {M : Mem} (h : CR M) : gR M 84 6 = some 125 := (h 84 6 rfl).trans (by decide +kernel)
theorem cr_84_7 {M : Mem} (h : CR M) : gR M 84 7 = some 126 := (h 84 7 rfl).trans (by decide +kernel)
theorem cr_84_8 {M : Mem} (h : CR M) : gR M 84 8 = some 127 := (h 84 8 rfl).trans (by decide +kernel)
theorem cr_84_9 {M : Mem} (h : CR M) : gR M 84 9 = some 128 := (h 84 9 rfl).trans (by decide +kernel)
theorem cr_84_11 {M : Mem} (h : CR M) : gR M 84 11 = some 129 := (h 84 11 rfl).trans (by decide +kernel)
theorem cr_84_12 {M : Mem} (h : CR M) : gR M 84 12 = some 130 := (h 84 12 rfl).trans (by decide +kernel)
theorem cr_84_13 {M : Mem} (h : CR M) : gR M 84 13 = some 131 := (h 84 13 rfl).trans (by decide +kernel)
theorem cr_84_14 {M : Mem} (h : CR M) : gR M 84 14 = some 132 := (h 84 14 rfl).trans (by decide +kernel)
theorem cr_84_15 {M : Mem} (h : CR M) : gR M 84 15 = some 133 := (h 84 15 rfl).trans (by decide +kernel)
theorem cr_84_16 {M : Mem} (h : CR M) : gR M 84 16 = some 134 := (h 84 16 rfl).trans (by decide +kernel)
theorem cr_84_17 {M : Mem} (h : CR M) : gR M 84 17 = some 141 := (h 84 17 rfl).trans (by decide +kernel)
theorem cr_85_0 {M : Mem} (h : CR M) : gR M 85 0 = some 86 := (h 85 0 rfl).trans (by decide +kernel)
theorem cr_85_1 {M : Mem} (h : CR M) : gR M 85 1 = some 90 := (h 85 1 rfl).trans (by decide +kernel)
theorem cr_142_2 {M : Mem} (h : CR M) : gR M 142 2 = some 143 := (h 142 2 rfl).trans (by decide +kernel)
theorem cr_142_6 {M : Mem} (h : CR M) : gR M 142 6 = some 144 := (h 142 6 rfl).trans (by decide +kernel)
theorem cr_142_7 {M : Mem} (h : CR M) : gR M 142 7 = some 145 := (h 142 7 rfl).trans (by decide +kernel)
theorem cr_146_2 {M : Mem} (h : CR M) : gR M 146 2 = some 147 := (h 146 2 rfl).trans (by decide +kernel)
theorem cr_146_3 {M : Mem} (h : CR M) : gR M 146 3 = some 148 := (h 146 3 rfl).trans (by decide +kernel)
theorem zC_0 : shC 0 = (10, 10) := by decide +kernel
theorem zC_1 : shC 1 = (6, 9) := by decide +kernel
theorem zC_2 : shC 2 = (103, 2000) := by decide +kernel
theorem zC_81 : shC 81 = (107, 3) := by decide +kernel
theorem zC_82 : shC 82 = (102, 3) := by decide +kernel
theorem zC_83 : shC 83 = (108, 4) := by decide +kernel
theorem zC_84 : shC 84 = (3, 18) := by decide +kernel
theorem zC_85 : shC 85 = (2, 2) := by decide +kernel
theorem zC_86 : shC 86 = (109, 3) := by decide +kernel
theorem zC_90 : shC 90 = (109, 8) := by decide +kernel
theorem zC_99 : shC 99 = (109, 8) := by decide +kernel
theorem zC_108 : shC 108 = (109, 8) := by decide +kernel
theorem zC_117 : shC 117 = (109, 6) := by decide +kernel
theorem zC_124 : shC 124 = (100, 160) := by decide +kernel
theorem zC_125 : shC 125 = (100, 160) := by decide +kernel
theorem zC_126 : shC 126 = (100, 160) := by decide +kernel
theorem zC_127 : shC 127 = (100, 160) := by decide +kernel
theorem zC_128 : shC 128 = (100, 6) := by decide +kernel
theorem zC_129 : shC 129 = (100, 8) := by decide +kernel
theorem zC_130 : shC 130 = (100, 8) := by decide +kernel
theorem zC_131 : shC 131 = (102, 8) := by decide +kernel
theorem zC_132 : shC 132 = (102, 8) := by decide +kernel
theorem zC_133 : shC 133 = (100, 6) := by decide +kernel
theorem zC_134 : shC 134 = (109, 6) := by decide +kernel
theorem zC_141 : shC 141 = (100, 6) := by decide +kernel
theorem zC_142 : shC 142 = (0, 11) := by decide +kernel
theorem zC_143 : shC 143 = (100, 60) := by decide +kernel
theorem zC_144 : shC 144 = (100, 3) := by decide +kernel
theorem zC_145 : shC 145 = (101, 8) := by decide +kernel
theorem zC_146 : shC 146 = (5, 4) := by decide +kernel
theorem zC_147 : shC 147 = (100, 12) := by decide +kernel
theorem zC_148 : shC 148 = (100, 8) := by decide +kernel
theorem oC_0 : oB shC 0 10 = true := by decide +kernel
theorem oC_1 : oB shC 1 6 = true := by decide +kernel
theorem oC_84 : oB shC 84 3 = true := by decide +kernel
theorem oC_85 : oB shC 85 2 = true := by decide +kernel
theorem oC_142 : oB shC 142 0 = true := by decide +kernel
theorem oC_146 : oB shC 146 5 = true := by decide +kernel
def MB : List Nat := [3, 42, 149, 188, 227]
theorem mb_sh : ∀ b ∈ MB, oB shC b 4 = true ∧ shC (b + 1) = (104, 3) ∧ shC (b + 2) = (105, 8) ∧ shC (b + 3) = (106, 6) ∧ (∀ r, r < 3 → oB shC (b + 4 + r) 7 = true) ∧ (∀ s, s < 8 → oB shC (b + 7 + s) 9 = true) ∧ (∀ i, i < 6 → oB shC (b + 15 + 4 * i) 1 = true ∧ shC (b + 16 + 4 * i) = (100, 3) ∧ shC (b + 17 + 4 * i) = (100, 3) ∧ shC (b + 18 + 4 * i) = (100, 3)) := by decide +kernel
theorem mb_rf : ∀ b ∈ MB, (mutB b 6 = false ∧ CRf b 6 = some (b + 1)) ∧ (mutB b 7 = false ∧ CRf b 7 = some (b + 2)) ∧ (mutB b 8 = false ∧ CRf b 8 = some (b + 3)) ∧ (∀ r, r < 3 → mutB (b + 1) r = false ∧ CRf (b + 1) r = some (b + 4 + r)) ∧ (∀ s, s < 8 → mutB (b + 2) s = false ∧ CRf (b + 2) s = some (b + 7 + s)) ∧ (∀ i, i < 6 → mutB (b + 3) i = false ∧ CRf (b + 3) i = some (b + 15 + 4 * i)) ∧ (∀ i, i < 6 → (mutB (b + 15 + 4 * i) 4 = false ∧ CRf (b + 15 + 4 * i) 4 = some (b + 16 + 4 * i)) ∧ (mutB (b + 15 + 4 * i) 5 = false ∧ CRf (b + 15 + 4 * i) 5 = some (b + 17 + 4 * i)) ∧ (mutB (b + 15 + 4 * i) 6 = false ∧ CRf (b + 15 + 4 * i) 6 = some (b + 18 + 4 * i))) := by decide +kernel
section MBF
variable {M : Mem} {b : Nat}
theorem mk_6 (h : CR M) (hb : b ∈ MB) : gR M b 6 = some (b + 1) := (h _ _ (mb_rf b hb).1.1).trans (mb_rf b hb).1.2
theorem mk_7 (h : CR M) (hb : b ∈ MB) : gR M b 7 = some (b + 2) := (h _ _ (mb_rf b hb).2.1.1).trans (mb_rf b hb).2.1.2
theorem mk_8 (h : CR M) (hb : b ∈ MB) : gR M b 8 = some (b + 3) := (h _ _ (mb_rf b hb).2.2.1.1).trans (mb_rf b hb).2.2.1.2
theorem mk_r (h : CR M) (hb : b ∈ MB) {r : Nat} (hr : r < 3) : gR M (b + 1) r = some (b + 4 + r) := (h _ _ ((mb_rf b hb).2.2.2.1 r hr).1).trans ((mb_rf b hb).2.2.2.1 r hr).2
theorem mk_s (h : CR M) (hb : b ∈ MB) {s : Nat} (hr : s < 8) : gR M (b + 2) s = some (b + 7 + s) := (h _ _ ((mb_rf b hb).2.2.2.2.1 s hr).1).trans ((mb_rf b hb).2.2.2.2.1 s hr).2
theorem mk_b (h : CR M) (hb : b ∈ MB) {i : Nat} (hr : i < 6) : gR M (b + 3) i = some (b + 15 + 4 * i) := (h _ _ ((mb_rf b hb).2.2.2.2.2.1 i hr).1).trans ((mb_rf b hb).2.2.2.2.2.1 i hr).2
theorem mk_b4 (h : CR M) (hb : b ∈ MB) {i : Nat} (hr : i < 6) : gR M (b + 15 + 4 * i) 4 = some (b + 16 + 4 * i) := (h _ _ ((mb_rf b hb).2.2.2.2.2.2 i hr).1.1).trans ((mb_rf b hb).2.2.2.2.2.2 i hr).1.2
theorem mk_b5 (h : CR M) (hb : b ∈ MB) {i : Nat} (hr : i < 6) : gR M (b + 15 + 4 * i) 5 = some (b + 17 + 4 * i) := (h _ _ ((mb_rf b hb).2.2.2.2.2.2 i hr).2.1.1).trans ((mb_rf b hb).2.2.2.2.2.2 i hr).2.1.2
theorem mk_b6 (h : CR M) (hb : b ∈ MB) {i : Nat} (hr : i < 6) : gR M (b + 15 + 4 * i) 6 = some (b + 18 + 4 * i) := (h _ _ ((mb_rf b hb).2.2.2.2.2.2 i hr).2.2.1).trans ((mb_rf b hb).2.2.2.2.2.2 i hr).2.2.2
end MBF
theorem gd_t {β : Type} (x : Option β) : gd true x = x := rfl
theorem bd_t {α β : Type} (a : α) (f : α → Option β) : bd (some a) f = f a := rfl
theorem nx_t {α β : Type} (a : α) (f : α → Option β) : nx a f = f a := rfl
theorem inb_k {i : Int32} {k L : Nat} (hi : i = nI k) (hk : k < L) (hL : L < 2 ^ 31) : inb i L = true := by
  subst hi
  have h1 : ¬ nI k < 0 := nI_pos (by omega)
  simp [inb, h1, nI_clamp (show k < 2 ^ 31 by omega), hk]
theorem aB_t {sh : Shp} {q t L : Nat} {i : Int32} (k : Nat) (hs : sh q = (100 + t, L)) (hi : i = nI k) (hk : k < L) (hL : L < 2 ^ 31) : aB sh q t i = true := by
  unfold aB
  rw [hs, inb_k hi hk hL]
  simp
theorem cl_k {i : Int32} (k : Nat) (hi : i = nI k) (hk : k < 2 ^ 31) : i.toNatClampNeg = k := by rw [hi, nI_clamp hk]
theorem isZ_ite (c : Prop) {_ : Decidable c} : isZ (if c then 1 else 0) = true := by split <;> rfl
theorem in_eq (M : Mem) (a b c : Int64) : f_X11_in M a b c = some (if b ≤ a ∧ a ≤ c then 1 else 0) := by
  have e1 : ∀ x y : Int64, lg_cmp x y < 0 ↔ x < y := by
    intro x y
    unfold lg_cmp
    by_cases h : x > y
    · rw [if_pos h]
      constructor
      · intro z; exact absurd z (by decide)
      · intro z; exact (Int64.lt_irrefl (Int64.lt_trans z h)).elim
    · rw [if_neg h]
      by_cases h2 : x = y
      · rw [if_pos h2]
        subst h2
        exact ⟨fun z => absurd z (by decide), fun z => (Int64.lt_irrefl z).elim⟩
      · rw [if_neg h2]
        refine ⟨fun _ => ?_, fun _ => by decide⟩
        exact Int64.lt_of_le_of_ne (Int64.not_lt.mp h) h2
  have e2 : ∀ x y : Int64, 0 < lg_cmp x y ↔ y < x := by
    intro x y
    unfold lg_cmp
    by_cases h : x > y
    · rw [if_pos h]
      exact ⟨fun _ => h, fun _ => by decide⟩
    · rw [if_neg h]
      refine ⟨fun z => ?_, fun z => absurd z h⟩
      by_cases h2 : x = y
      · rw [if_pos h2] at z; exact absurd z (by decide)
      · rw [if_neg h2] at z; exact absurd z (by decide)
  unfold f_X11_in
  by_cases h1 : a < b
  · rw [if_pos ((e1 a b).mpr h1), if_neg (fun z => Int64.lt_irrefl (Int64.lt_of_lt_of_le h1 z.1))]
  · rw [if_neg (fun z => h1 ((e1 a b).mp z))]
    by_cases h2 : c < a
    · rw [if_pos ((e2 a c).mpr h2), if_neg (fun z => Int64.lt_irrefl (Int64.lt_of_lt_of_le h2 z.2))]
    · rw [if_neg (fun z => h2 ((e2 a c).mp z)), if_pos ⟨Int64.not_lt.mp h1, Int64.not_lt.mp h2⟩]
theorem in32 (M : Mem) (a : Int32) {lo hi : Int64} (l h : Int32) (hl : lo = l.toInt64) (hh : hi = h.toInt64) : f_X11_in M a.toInt64 lo hi = some (if l ≤ a ∧ a ≤ h then 1 else 0) := by
  subst hl
  subst hh
  rw [in_eq]
  have e : ∀ x y : Int32, x.toInt64 ≤ y.toInt64 ↔ x ≤ y := fun x y => by rw [Int64.le_iff_toInt_le, Int32.le_iff_toInt_le, Int32.toInt_toInt64, Int32.toInt_toInt64]
  simp only [e]
theorem le_pred {a : Int32} {n : Nat} (hn : n < 2 ^ 31) : a ≤ nI n - 1 ↔ a < nI n := by
  rw [Int32.le_iff_toInt_le, Int32.lt_iff_toInt_lt]
  cases n with
  | zero =>
    have : (nI 0 - 1).toInt = -1 := by decide
    rw [this, nI_toInt (by decide)]
    omega
  | succ m =>
    rw [nI_pred, nI_toInt (by omega), nI_toInt hn]
    omega

