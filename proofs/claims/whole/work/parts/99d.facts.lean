/-! THE LAW's START: the world out of the premises -/
def tmS (i : Nat) : Term := Term.string RX6 (SREF.getD i (0, "")).1
def GVL : List Cond := flatC (Cond.and given_1 narrow_1)
theorem gv_ex : ∀ i, i < SBYT.length → Cond.exactly (tmS i) "java/lang/String" ∈ GVL := by decide +kernel
theorem gv_co : ∀ i, i < SBYT.length → Cond.eq (.field (tmS i) "java/lang/String" "coder" "B") (.int 0) ∈ GVL := by decide +kernel
theorem gv_ar : ∀ i, i < SBYT.length → Cond.arrayOf (.field (tmS i) "java/lang/String" "value" "[B") .byte ∈ GVL := by decide +kernel
theorem gv_le : ∀ i, i < SBYT.length → Cond.eq (.length (.field (tmS i) "java/lang/String" "value" "[B")) (.int (Int32.ofNat (SBYT.getD i []).length)) ∈ GVL := by decide +kernel
theorem gv_el : ∀ i, i < SBYT.length → ∀ j, j < (SBYT.getD i []).length → Cond.eq (.elem (.field (tmS i) "java/lang/String" "value" "[B") (.int (Int32.ofNat j))) (.int ((SBYT.getD i []).getD j 0)) ∈ GVL := by decide +kernel
theorem gv_cs : Cond.eq (.static "java/lang/String" "COMPACT_STRINGS" "Z") (.int 1) ∈ GVL := by decide +kernel
theorem gv_si : Cond.isRef (.static "jdk/internal/util/Preconditions" "SIOOBE_FORMATTER" "Ljava/util/function/BiFunction;") ∈ GVL := by decide +kernel
theorem sb_len : ∀ i, i < SBYT.length → (SBYT.getD i []).length < 2 ^ 31 := by decide +kernel
theorem tw_ls1 : Cond.laysStatic "java/lang/String" "COMPACT_STRINGS" "Z" ∈ lw_tbl := List.mem_of_getElem? (i := 654) (by decide +kernel)
theorem tw_ls2 : Cond.laysStatic "jdk/internal/util/Preconditions" "SIOOBE_FORMATTER" "Ljava/util/function/BiFunction;" ∈ lw_tbl := List.mem_of_getElem? (i := 670) (by decide +kernel)
theorem tw_in1 : Cond.initialized "java/lang/String" ∈ lw_tbl := List.mem_of_getElem? (i := 112) (by decide +kernel)
theorem tw_in2 : Cond.initialized "jdk/internal/util/Preconditions" ∈ lw_tbl := List.mem_of_getElem? (i := 114) (by decide +kernel)
theorem tw_s0 : Cond.stringRef RX6 52 "ring" ∈ lw_tbl := List.mem_of_getElem? (i := 707) (by decide +kernel)
theorem tw_s1 : Cond.stringRef RX6 61 "stall" ∈ lw_tbl := List.mem_of_getElem? (i := 719) (by decide +kernel)
theorem tw_s2 : Cond.stringRef RX6 66 "buyer" ∈ lw_tbl := List.mem_of_getElem? (i := 735) (by decide +kernel)
theorem tw_s3 : Cond.stringRef RX6 71 "wants" ∈ lw_tbl := List.mem_of_getElem? (i := 749) (by decide +kernel)
theorem tw_s4 : Cond.stringRef RX6 76 "stuck" ∈ lw_tbl := List.mem_of_getElem? (i := 759) (by decide +kernel)
theorem tw_s5 : Cond.stringRef RX6 88 "market" ∈ lw_tbl := List.mem_of_getElem? (i := 636) (by decide +kernel)
theorem tw_s6 : Cond.stringRef RX6 94 "places" ∈ lw_tbl := List.mem_of_getElem? (i := 697) (by decide +kernel)
theorem tw_s7 : Cond.stringRef RX6 102 "minutes" ∈ lw_tbl := List.mem_of_getElem? (i := 706) (by decide +kernel)
theorem tw_s8 : Cond.stringRef RX6 117 "turns" ∈ lw_tbl := List.mem_of_getElem? (i := 716) (by decide +kernel)
theorem tw_s9 : Cond.stringRef RX6 123 "east" ∈ lw_tbl := List.mem_of_getElem? (i := 717) (by decide +kernel)
theorem tw_s10 : Cond.stringRef RX6 128 "west" ∈ lw_tbl := List.mem_of_getElem? (i := 718) (by decide +kernel)
theorem tw_s11 : Cond.stringRef RX6 144 "at" ∈ lw_tbl := List.mem_of_getElem? (i := 724) (by decide +kernel)
theorem tw_s12 : Cond.stringRef RX6 149 "sells" ∈ lw_tbl := List.mem_of_getElem? (i := 725) (by decide +kernel)
theorem tw_s13 : Cond.stringRef RX6 154 "pieces" ∈ lw_tbl := List.mem_of_getElem? (i := 726) (by decide +kernel)
theorem tw_s14 : Cond.stringRef RX6 158 "price" ∈ lw_tbl := List.mem_of_getElem? (i := 727) (by decide +kernel)
theorem tw_s15 : Cond.stringRef RX6 172 "fixed" ∈ lw_tbl := List.mem_of_getElem? (i := 732) (by decide +kernel)
theorem tw_s16 : Cond.stringRef RX6 174 "falls" ∈ lw_tbl := List.mem_of_getElem? (i := 733) (by decide +kernel)
theorem tw_s17 : Cond.stringRef RX6 176 "learns" ∈ lw_tbl := List.mem_of_getElem? (i := 734) (by decide +kernel)
theorem tw_s18 : Cond.stringRef RX6 190 "coins" ∈ lw_tbl := List.mem_of_getElem? (i := 740) (by decide +kernel)
theorem tw_s19 : Cond.stringRef RX6 194 "habit" ∈ lw_tbl := List.mem_of_getElem? (i := 741) (by decide +kernel)
theorem tw_s20 : Cond.stringRef RX6 202 "eager" ∈ lw_tbl := List.mem_of_getElem? (i := 746) (by decide +kernel)
theorem tw_s21 : Cond.stringRef RX6 206 "thrifty" ∈ lw_tbl := List.mem_of_getElem? (i := 747) (by decide +kernel)
theorem tw_s22 : Cond.stringRef RX6 208 "slow" ∈ lw_tbl := List.mem_of_getElem? (i := 748) (by decide +kernel)
theorem tw_s23 : Cond.stringRef RX6 222 "limit" ∈ lw_tbl := List.mem_of_getElem? (i := 758) (by decide +kernel)
theorem tw_s24 : Cond.stringRef RX6 226 "from" ∈ lw_tbl := List.mem_of_getElem? (i := 764) (by decide +kernel)
theorem tw_s25 : Cond.stringRef RX6 228 "to" ∈ lw_tbl := List.mem_of_getElem? (i := 765) (by decide +kernel)
theorem tw_str : ∀ (i : Nat) (q : Nat × String), SREF[i]? = some q → Cond.stringRef RX6 q.1 q.2 ∈ lw_tbl := fun i q h => match i, h with
  | 0, h => by cases h; exact tw_s0
  | 1, h => by cases h; exact tw_s1
  | 2, h => by cases h; exact tw_s2
  | 3, h => by cases h; exact tw_s3
  | 4, h => by cases h; exact tw_s4
  | 5, h => by cases h; exact tw_s5
  | 6, h => by cases h; exact tw_s6
  | 7, h => by cases h; exact tw_s7
  | 8, h => by cases h; exact tw_s8
  | 9, h => by cases h; exact tw_s9
  | 10, h => by cases h; exact tw_s10
  | 11, h => by cases h; exact tw_s11
  | 12, h => by cases h; exact tw_s12
  | 13, h => by cases h; exact tw_s13
  | 14, h => by cases h; exact tw_s14
  | 15, h => by cases h; exact tw_s15
  | 16, h => by cases h; exact tw_s16
  | 17, h => by cases h; exact tw_s17
  | 18, h => by cases h; exact tw_s18
  | 19, h => by cases h; exact tw_s19
  | 20, h => by cases h; exact tw_s20
  | 21, h => by cases h; exact tw_s21
  | 22, h => by cases h; exact tw_s22
  | 23, h => by cases h; exact tw_s23
  | 24, h => by cases h; exact tw_s24
  | 25, h => by cases h; exact tw_s25
  | i + 26, h => by
    exfalso
    have := (List.getElem?_eq_some_iff.mp h).1
    have e : SREF.length = 26 := rfl
    omega
theorem tw_a0 : Cond.arrayClass .int ∈ lw_tbl := List.mem_of_getElem? (i := 304) (by decide +kernel)
theorem tw_a1 : Cond.arrayClass .long ∈ lw_tbl := List.mem_of_getElem? (i := 507) (by decide +kernel)
theorem tw_a2 : Cond.arrayClass .boolean ∈ lw_tbl := List.mem_of_getElem? (i := 397) (by decide +kernel)
theorem tw_a3 : Cond.arrayClass .byte ∈ lw_tbl := List.mem_of_getElem? (i := 164) (by decide +kernel)
theorem tw_aa : Cond.arrayOver (.array .int) ∈ lw_tbl := List.mem_of_getElem? (i := 385) (by decide +kernel)
