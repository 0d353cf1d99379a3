/-! shapes, links, small rows -/
def FU : Nat := 4000
theorem ii_s {x w y : Int32} (h : y = w) : x + y = x + w := by rw [h]
theorem ro_s {α β : Type} {M : α} {v r : β} (h : some v = some r) : some (M, v) = some (M, r) := by cases h; rfl
theorem gR_kI {M M' : Mem} {a k b j : Nat} {v : Int32} {r : Option Nat} (h : M' = sI M a k v) (hr : gR M b j = r) : gR M' b j = r := by subst h; exact hr
theorem gR_kL {M M' : Mem} {a k b j : Nat} {v : Int64} {r : Option Nat} (h : M' = sL M a k v) (hr : gR M b j = r) : gR M' b j = r := by subst h; exact hr
theorem gR_kC {M M' : Mem} {s sp d dp n b j : Nat} {r : Option Nat} (h : M' = cpI M s sp d dp n) (hr : gR M b j = r) : gR M' b j = r := by subst h; exact hr
theorem gR_kD {M M' : Mem} {s sp d dp n b j : Nat} {r : Option Nat} (h : M' = cpL M s sp d dp n) (hr : gR M b j = r) : gR M' b j = r := by subst h; exact hr
theorem i32_ne {x k : Int32} {z : Int} (h : ¬ x = k) (hk : k.toInt = z) : x.toInt ≠ z := fun e => h (Int32.toInt_inj.mp (e.trans hk.symm))
def sB (i : Nat) : Bool := decide (i < SBYT.length)
theorem sB_s {i : Nat} (h : sB i = true) : i < SBYT.length := of_decide_eq_true h
def sLen (i : Nat) : Int32 := Int32.ofNat (SBYT.getD i []).length
def sChr (i : Nat) (j : Int32) : Int32 := (((SBYT.getD i []).getD j.toNatClampNeg 0 &&& 255).toUInt32 % 65536).toInt32
section TP
variable {X : Cx} {sh : Shp} {n kc ks : Nat} {M : Mem} {pc : Nat} {lo : List (Option Value)} {st : List Value}
theorem top_i {v e : Int32} (h : v = e) (k : GoN X sh n kc ks M pc lo (.int v :: st)) : GoN X sh n kc ks M pc lo (.int e :: st) := h ▸ k
theorem top_l {v e : Int64} (h : v = e) (k : GoN X sh n kc ks M pc lo (.long v :: st)) : GoN X sh n kc ks M pc lo (.long e :: st) := h ▸ k
end TP
def SHC : List (Nat × Nat) := [(10, 10), (6, 9), (103, 2000), (4, 9), (104, 3), (105, 8), (106, 6), (7, 3), (7, 3), (7, 3), (9, 7), (9, 7), (9, 7), (9, 7), (9, 7), (9, 7), (9, 7), (9, 7), (1, 7), (100, 3), (100, 3), (100, 3), (1, 7), (100, 3), (100, 3), (100, 3), (1, 7), (100, 3), (100, 3), (100, 3), (1, 7), (100, 3), (100, 3), (100, 3), (1, 7), (100, 3), (100, 3), (100, 3), (1, 7), (100, 3), (100, 3), (100, 3), (4, 9), (104, 3), (105, 8), (106, 6), (7, 3), (7, 3), (7, 3), (9, 7), (9, 7), (9, 7), (9, 7), (9, 7), (9, 7), (9, 7), (9, 7), (1, 7), (100, 3), (100, 3), (100, 3), (1, 7), (100, 3), (100, 3), (100, 3), (1, 7), (100, 3), (100, 3), (100, 3), (1, 7), (100, 3), (100, 3), (100, 3), (1, 7), (100, 3), (100, 3), (100, 3), (1, 7), (100, 3), (100, 3), (100, 3), (107, 3), (102, 3), (108, 4), (3, 18), (2, 2), (109, 3), (100, 60), (100, 60), (100, 60), (109, 8), (100, 60), (100, 60), (100, 60), (100, 60), (100, 60), (100, 60), (100, 60), (100, 60), (109, 8), (100, 60), (100, 60), (100, 60), (100, 60), (100, 60), (100, 60), (100, 60), (100, 60), (109, 8), (100, 60), (100, 60), (100, 60), (100, 60), (100, 60), (100, 60), (100, 60), (100, 60), (109, 6), (100, 60), (100, 60), (100, 60), (100, 60), (100, 60), (100, 60), (100, 160), (100, 160), (100, 160), (100, 160), (100, 6), (100, 8), (100, 8), (102, 8), (102, 8), (100, 6), (109, 6), (100, 3), (100, 3), (100, 3), (100, 3), (100, 3), (100, 3), (100, 6), (0, 11), (100, 60), (100, 3), (101, 8), (5, 4), (100, 12), (100, 8), (4, 9), (104, 3), (105, 8), (106, 6), (7, 3), (7, 3), (7, 3), (9, 7), (9, 7), (9, 7), (9, 7), (9, 7), (9, 7), (9, 7), (9, 7), (1, 7), (100, 3), (100, 3), (100, 3), (1, 7), (100, 3), (100, 3), (100, 3), (1, 7), (100, 3), (100, 3), (100, 3), (1, 7), (100, 3), (100, 3), (100, 3), (1, 7), (100, 3), (100, 3), (100, 3), (1, 7), (100, 3), (100, 3), (100, 3), (4, 9), (104, 3), (105, 8), (106, 6), (7, 3), (7, 3), (7, 3), (9, 7), (9, 7), (9, 7), (9, 7), (9, 7), (9, 7), (9, 7), (9, 7), (1, 7), (100, 3), (100, 3), (100, 3), (1, 7), (100, 3), (100, 3), (100, 3), (1, 7), (100, 3), (100, 3), (100, 3), (1, 7), (100, 3), (100, 3), (100, 3), (1, 7), (100, 3), (100, 3), (100, 3), (1, 7), (100, 3), (100, 3), (100, 3), (4, 9), (104, 3), (105, 8), (106, 6), (7, 3), (7, 3), (7, 3), (9, 7), (9, 7), (9, 7), (9, 7), (9, 7), (9, 7), (9, 7), (9, 7), (1, 7), (100, 3), (100, 3), (100, 3), (1, 7), (100, 3), (100, 3), (100, 3), (1, 7), (100, 3), (100, 3), (100, 3), (1, 7), (100, 3), (100, 3), (100, 3), (1, 7), (100, 3), (100, 3), (100, 3), (1, 7), (100, 3), (100, 3), (100, 3), (8, 4), (101, 60), (8, 4), (101, 60), (8, 4), (101, 60), (8, 4), (101, 60)]
def nC : Nat := 274
def shC : Shp := fun q => SHC.getD q (9999, 0)
theorem shC_ok : ∀ q, (shC q).1 ≠ 9999 → q < nC := by
  intro q h
  have hl : SHC.length = nC := by decide +kernel
  rcases Nat.lt_or_ge q nC with h1 | h1
  · exact h1
  · exfalso
    apply h
    unfold shC
    rw [List.getD_eq_getElem?_getD, List.getElem?_eq_none (by omega)]
    rfl
def SHR : List (Nat × Nat) := [(11, 54), (100, 4), (100, 4), (101, 240), (101, 60), (103, 2000), (100, 5), (100, 30), (100, 30), (100, 280), (100, 120), (100, 270), (100, 60), (102, 3), (100, 180), (100, 3), (100, 8), (100, 8), (100, 8), (100, 8), (100, 8), (102, 8), (102, 8), (100, 6), (100, 6), (100, 6), (100, 18), (102, 360), (100, 480), (100, 480), (100, 360), (100, 640), (100, 60), (102, 480), (100, 12), (100, 12)]
def nR : Nat := 36
def shR : Shp := fun q => SHR.getD q (9999, 0)
theorem shR_ok : ∀ q, (shR q).1 ≠ 9999 → q < nR := by
  intro q h
  have hl : SHR.length = nR := by decide +kernel
  rcases Nat.lt_or_ge q nR with h1 | h1
  · exact h1
  · exfalso
    apply h
    unfold shR
    rw [List.getD_eq_getElem?_getD, List.getElem?_eq_none (by omega)]
    rfl
theorem bc_m8 : (Int8.ofInt (-8)).toInt32 = (-8) := by decide +kernel
theorem bc_m7 : (Int8.ofInt (-7)).toInt32 = (-7) := by decide +kernel
theorem bc_m6 : (Int8.ofInt (-6)).toInt32 = (-6) := by decide +kernel
theorem bc_m5 : (Int8.ofInt (-5)).toInt32 = (-5) := by decide +kernel
theorem bc_m4 : (Int8.ofInt (-4)).toInt32 = (-4) := by decide +kernel
theorem bc_m3 : (Int8.ofInt (-3)).toInt32 = (-3) := by decide +kernel
theorem bc_m2 : (Int8.ofInt (-2)).toInt32 = (-2) := by decide +kernel
theorem bc_6 : (Int8.ofInt 6).toInt32 = 6 := by decide +kernel
theorem bc_7 : (Int8.ofInt 7).toInt32 = 7 := by decide +kernel
theorem bc_8 : (Int8.ofInt 8).toInt32 = 8 := by decide +kernel
theorem bc_9 : (Int8.ofInt 9).toInt32 = 9 := by decide +kernel
theorem bc_10 : (Int8.ofInt 10).toInt32 = 10 := by decide +kernel
theorem bc_11 : (Int8.ofInt 11).toInt32 = 11 := by decide +kernel
theorem bc_12 : (Int8.ofInt 12).toInt32 = 12 := by decide +kernel
theorem bc_13 : (Int8.ofInt 13).toInt32 = 13 := by decide +kernel
theorem bc_14 : (Int8.ofInt 14).toInt32 = 14 := by decide +kernel
theorem bc_15 : (Int8.ofInt 15).toInt32 = 15 := by decide +kernel
theorem bc_16 : (Int8.ofInt 16).toInt32 = 16 := by decide +kernel
theorem bc_17 : (Int8.ofInt 17).toInt32 = 17 := by decide +kernel
theorem bc_18 : (Int8.ofInt 18).toInt32 = 18 := by decide +kernel
theorem bc_19 : (Int8.ofInt 19).toInt32 = 19 := by decide +kernel
theorem bc_20 : (Int8.ofInt 20).toInt32 = 20 := by decide +kernel
theorem bc_21 : (Int8.ofInt 21).toInt32 = 21 := by decide +kernel
theorem bc_22 : (Int8.ofInt 22).toInt32 = 22 := by decide +kernel
theorem bc_23 : (Int8.ofInt 23).toInt32 = 23 := by decide +kernel
theorem bc_24 : (Int8.ofInt 24).toInt32 = 24 := by decide +kernel
theorem bc_25 : (Int8.ofInt 25).toInt32 = 25 := by decide +kernel
theorem bc_26 : (Int8.ofInt 26).toInt32 = 26 := by decide +kernel
theorem bc_27 : (Int8.ofInt 27).toInt32 = 27 := by decide +kernel
theorem bc_28 : (Int8.ofInt 28).toInt32 = 28 := by decide +kernel
theorem bc_29 : (Int8.ofInt 29).toInt32 = 29 := by decide +kernel
theorem bc_30 : (Int8.ofInt 30).toInt32 = 30 := by decide +kernel
theorem bc_31 : (Int8.ofInt 31).toInt32 = 31 := by decide +kernel
theorem bc_32 : (Int8.ofInt 32).toInt32 = 32 := by decide +kernel
theorem bc_33 : (Int8.ofInt 33).toInt32 = 33 := by decide +kernel
theorem bc_34 : (Int8.ofInt 34).toInt32 = 34 := by decide +kernel
theorem bc_35 : (Int8.ofInt 35).toInt32 = 35 := by decide +kernel
theorem bc_36 : (Int8.ofInt 36).toInt32 = 36 := by decide +kernel
theorem bc_37 : (Int8.ofInt 37).toInt32 = 37 := by decide +kernel
theorem bc_38 : (Int8.ofInt 38).toInt32 = 38 := by decide +kernel
theorem bc_39 : (Int8.ofInt 39).toInt32 = 39 := by decide +kernel
theorem bc_40 : (Int8.ofInt 40).toInt32 = 40 := by decide +kernel
theorem bc_41 : (Int8.ofInt 41).toInt32 = 41 := by decide +kernel
theorem bc_42 : (Int8.ofInt 42).toInt32 = 42 := by decide +kernel
theorem bc_43 : (Int8.ofInt 43).toInt32 = 43 := by decide +kernel
theorem bc_44 : (Int8.ofInt 44).toInt32 = 44 := by decide +kernel
theorem bc_45 : (Int8.ofInt 45).toInt32 = 45 := by decide +kernel
theorem bc_46 : (Int8.ofInt 46).toInt32 = 46 := by decide +kernel
theorem bc_47 : (Int8.ofInt 47).toInt32 = 47 := by decide +kernel
theorem bc_48 : (Int8.ofInt 48).toInt32 = 48 := by decide +kernel
theorem bc_49 : (Int8.ofInt 49).toInt32 = 49 := by decide +kernel
theorem bc_50 : (Int8.ofInt 50).toInt32 = 50 := by decide +kernel
theorem bc_51 : (Int8.ofInt 51).toInt32 = 51 := by decide +kernel
theorem bc_52 : (Int8.ofInt 52).toInt32 = 52 := by decide +kernel
theorem bc_53 : (Int8.ofInt 53).toInt32 = 53 := by decide +kernel
theorem bc_54 : (Int8.ofInt 54).toInt32 = 54 := by decide +kernel
theorem bc_55 : (Int8.ofInt 55).toInt32 = 55 := by decide +kernel
theorem bc_56 : (Int8.ofInt 56).toInt32 = 56 := by decide +kernel
theorem bc_57 : (Int8.ofInt 57).toInt32 = 57 := by decide +kernel
theorem bc_58 : (Int8.ofInt 58).toInt32 = 58 := by decide +kernel
theorem bc_59 : (Int8.ofInt 59).toInt32 = 59 := by decide +kernel
theorem bc_60 : (Int8.ofInt 60).toInt32 = 60 := by decide +kernel
theorem bc_61 : (Int8.ofInt 61).toInt32 = 61 := by decide +kernel
theorem bc_62 : (Int8.ofInt 62).toInt32 = 62 := by decide +kernel
theorem bc_63 : (Int8.ofInt 63).toInt32 = 63 := by decide +kernel
theorem bc_64 : (Int8.ofInt 64).toInt32 = 64 := by decide +kernel
theorem bc_65 : (Int8.ofInt 65).toInt32 = 65 := by decide +kernel
theorem bc_66 : (Int8.ofInt 66).toInt32 = 66 := by decide +kernel
theorem bc_67 : (Int8.ofInt 67).toInt32 = 67 := by decide +kernel
theorem bc_68 : (Int8.ofInt 68).toInt32 = 68 := by decide +kernel
theorem bc_69 : (Int8.ofInt 69).toInt32 = 69 := by decide +kernel
theorem bc_70 : (Int8.ofInt 70).toInt32 = 70 := by decide +kernel
theorem bc_71 : (Int8.ofInt 71).toInt32 = 71 := by decide +kernel
theorem bc_72 : (Int8.ofInt 72).toInt32 = 72 := by decide +kernel
theorem bc_73 : (Int8.ofInt 73).toInt32 = 73 := by decide +kernel
theorem bc_74 : (Int8.ofInt 74).toInt32 = 74 := by decide +kernel
theorem bc_75 : (Int8.ofInt 75).toInt32 = 75 := by decide +kernel
theorem bc_76 : (Int8.ofInt 76).toInt32 = 76 := by decide +kernel
theorem bc_77 : (Int8.ofInt 77).toInt32 = 77 := by decide +kernel
theorem bc_78 : (Int8.ofInt 78).toInt32 = 78 := by decide +kernel
theorem bc_79 : (Int8.ofInt 79).toInt32 = 79 := by decide +kernel
theorem bc_80 : (Int8.ofInt 80).toInt32 = 80 := by decide +kernel
theorem bc_81 : (Int8.ofInt 81).toInt32 = 81 := by decide +kernel
theorem bc_82 : (Int8.ofInt 82).toInt32 = 82 := by decide +kernel
theorem bc_83 : (Int8.ofInt 83).toInt32 = 83 := by decide +kernel
theorem bc_84 : (Int8.ofInt 84).toInt32 = 84 := by decide +kernel
theorem bc_85 : (Int8.ofInt 85).toInt32 = 85 := by decide +kernel
theorem bc_86 : (Int8.ofInt 86).toInt32 = 86 := by decide +kernel
theorem bc_87 : (Int8.ofInt 87).toInt32 = 87 := by decide +kernel
theorem bc_88 : (Int8.ofInt 88).toInt32 = 88 := by decide +kernel
theorem bc_89 : (Int8.ofInt 89).toInt32 = 89 := by decide +kernel
theorem bc_90 : (Int8.ofInt 90).toInt32 = 90 := by decide +kernel
theorem bc_91 : (Int8.ofInt 91).toInt32 = 91 := by decide +kernel
theorem bc_92 : (Int8.ofInt 92).toInt32 = 92 := by decide +kernel
theorem bc_93 : (Int8.ofInt 93).toInt32 = 93 := by decide +kernel
theorem bc_94 : (Int8.ofInt 94).toInt32 = 94 := by decide +kernel
theorem bc_95 : (Int8.ofInt 95).toInt32 = 95 := by decide +kernel
theorem bc_96 : (Int8.ofInt 96).toInt32 = 96 := by decide +kernel
theorem bc_97 : (Int8.ofInt 97).toInt32 = 97 := by decide +kernel
theorem bc_98 : (Int8.ofInt 98).toInt32 = 98 := by decide +kernel
theorem bc_99 : (Int8.ofInt 99).toInt32 = 99 := by decide +kernel
theorem bc_100 : (Int8.ofInt 100).toInt32 = 100 := by decide +kernel
theorem bc_101 : (Int8.ofInt 101).toInt32 = 101 := by decide +kernel
theorem bc_102 : (Int8.ofInt 102).toInt32 = 102 := by decide +kernel
theorem bc_103 : (Int8.ofInt 103).toInt32 = 103 := by decide +kernel
theorem bc_104 : (Int8.ofInt 104).toInt32 = 104 := by decide +kernel
theorem bc_105 : (Int8.ofInt 105).toInt32 = 105 := by decide +kernel
theorem bc_106 : (Int8.ofInt 106).toInt32 = 106 := by decide +kernel
theorem bc_107 : (Int8.ofInt 107).toInt32 = 107 := by decide +kernel
theorem bc_108 : (Int8.ofInt 108).toInt32 = 108 := by decide +kernel
theorem bc_109 : (Int8.ofInt 109).toInt32 = 109 := by decide +kernel
theorem bc_110 : (Int8.ofInt 110).toInt32 = 110 := by decide +kernel
theorem bc_111 : (Int8.ofInt 111).toInt32 = 111 := by decide +kernel
theorem bc_112 : (Int8.ofInt 112).toInt32 = 112 := by decide +kernel
theorem bc_113 : (Int8.ofInt 113).toInt32 = 113 := by decide +kernel
theorem bc_114 : (Int8.ofInt 114).toInt32 = 114 := by decide +kernel
theorem bc_115 : (Int8.ofInt 115).toInt32 = 115 := by decide +kernel
theorem bc_116 : (Int8.ofInt 116).toInt32 = 116 := by decide +kernel
theorem bc_117 : (Int8.ofInt 117).toInt32 = 117 := by decide +kernel
theorem bc_118 : (Int8.ofInt 118).toInt32 = 118 := by decide +kernel
theorem bc_119 : (Int8.ofInt 119).toInt32 = 119 := by decide +kernel
theorem bc_120 : (Int8.ofInt 120).toInt32 = 120 := by decide +kernel
theorem bc_121 : (Int8.ofInt 121).toInt32 = 121 := by decide +kernel
theorem bc_122 : (Int8.ofInt 122).toInt32 = 122 := by decide +kernel
theorem bc_123 : (Int8.ofInt 123).toInt32 = 123 := by decide +kernel
theorem bc_124 : (Int8.ofInt 124).toInt32 = 124 := by decide +kernel
theorem bc_125 : (Int8.ofInt 125).toInt32 = 125 := by decide +kernel
theorem bc_126 : (Int8.ofInt 126).toInt32 = 126 := by decide +kernel
theorem bc_127 : (Int8.ofInt 127).toInt32 = 127 := by decide +kernel
theorem ic_m8 : Int32.ofInt (-8) = (-8) := by decide +kernel
theorem ic_m1 : Int32.ofInt (-1) = (-1) := by decide +kernel
theorem ic_0 : Int32.ofInt 0 = 0 := by decide +kernel
theorem ic_1 : Int32.ofInt 1 = 1 := by decide +kernel
theorem ic_2 : Int32.ofInt 2 = 2 := by decide +kernel
theorem ic_3 : Int32.ofInt 3 = 3 := by decide +kernel
theorem ic_4 : Int32.ofInt 4 = 4 := by decide +kernel
theorem ic_5 : Int32.ofInt 5 = 5 := by decide +kernel
theorem lc_0 : Int64.ofNat ((0 : Fin 2) : Nat) = 0 := by decide +kernel
theorem lc_1 : Int64.ofNat ((1 : Fin 2) : Nat) = 1 := by decide +kernel
theorem sc_160 : (Int16.ofInt 160).toInt32 = 160 := by decide +kernel
theorem sc_360 : (Int16.ofInt 360).toInt32 = 360 := by decide +kernel
theorem sc_480 : (Int16.ofInt 480).toInt32 = 480 := by decide +kernel
theorem sc_999 : (Int16.ofInt 999).toInt32 = 999 := by decide +kernel
theorem sc_1980 : (Int16.ofInt 1980).toInt32 = 1980 := by decide +kernel
theorem sc_2000 : (Int16.ofInt 2000).toInt32 = 2000 := by decide +kernel
theorem sc_3600 : (Int16.ofInt 3600).toInt32 = 3600 := by decide +kernel
theorem fl_6_9 : FL RX6 9 6 0 := ⟨_, rfl, by decide, ly6, rfl, wk_35, by decide⟩
theorem fl_6_15 : FL RX6 15 6 1 := ⟨_, rfl, by decide, ly6, rfl, wk_36, by decide⟩
theorem fl_10_66 : FL RX10 66 6 1 := ⟨_, rfl, by decide, ly6, rfl, wk_37, by decide⟩
theorem fl_6_19 : FL RX6 19 6 2 := ⟨_, rfl, by decide, ly6, rfl, wk_38, by decide⟩
theorem fl_10_81 : FL RX10 81 6 2 := ⟨_, rfl, by decide, ly6, rfl, wk_39, by decide⟩
theorem fl_6_22 : FL RX6 22 6 3 := ⟨_, rfl, by decide, ly6, rfl, wk_40, by decide⟩
theorem fl_10_84 : FL RX10 84 6 3 := ⟨_, rfl, by decide, ly6, rfl, wk_41, by decide⟩
theorem fl_6_230 : FL RX6 230 6 4 := ⟨_, rfl, by decide, ly6, rfl, wk_42, by decide⟩
theorem fl_6_25 : FL RX6 25 6 5 := ⟨_, rfl, by decide, ly6, rfl, wk_43, by decide⟩
theorem fl_6_39 : FL RX6 39 6 6 := ⟨_, rfl, by decide, ly6, rfl, wk_44, by decide⟩
theorem fl_6_232 : FL RX6 232 6 7 := ⟨_, rfl, by decide, ly6, rfl, wk_45, by decide⟩
theorem fl_6_28 : FL RX6 28 6 8 := ⟨_, rfl, by decide, ly6, rfl, wk_46, by decide⟩
theorem fl_7_7 : FL RX7 7 7 0 := ⟨_, rfl, by decide, ly7, rfl, wk_84, by decide⟩
theorem fl_2_49 : FL RX2 49 7 0 := ⟨_, rfl, by decide, ly7, rfl, wk_85, by decide⟩
theorem fl_6_119 : FL RX6 119 7 0 := ⟨_, rfl, by decide, ly7, rfl, wk_86, by decide⟩
theorem fl_10_315 : FL RX10 315 7 0 := ⟨_, rfl, by decide, ly7, rfl, wk_87, by decide⟩
theorem fl_7_13 : FL RX7 13 7 1 := ⟨_, rfl, by decide, ly7, rfl, wk_88, by decide⟩
theorem fl_2_64 : FL RX2 64 7 1 := ⟨_, rfl, by decide, ly7, rfl, wk_89, by decide⟩
theorem fl_6_125 : FL RX6 125 7 1 := ⟨_, rfl, by decide, ly7, rfl, wk_90, by decide⟩
theorem fl_7_17 : FL RX7 17 7 2 := ⟨_, rfl, by decide, ly7, rfl, wk_91, by decide⟩
theorem fl_2_43 : FL RX2 43 7 2 := ⟨_, rfl, by decide, ly7, rfl, wk_92, by decide⟩
theorem fl_6_130 : FL RX6 130 7 2 := ⟨_, rfl, by decide, ly7, rfl, wk_93, by decide⟩
theorem fl_4_64 : FL RX4 64 7 2 := ⟨_, rfl, by decide, ly7, rfl, wk_94, by decide⟩
theorem fl_10_371 : FL RX10 371 7 2 := ⟨_, rfl, by decide, ly7, rfl, wk_95, by decide⟩
theorem fl_9_7 : FL RX9 7 9 0 := ⟨_, rfl, by decide, ly9, rfl, wk_108, by decide⟩
theorem fl_2_56 : FL RX2 56 9 0 := ⟨_, rfl, by decide, ly9, rfl, wk_109, by decide⟩
theorem fl_10_95 : FL RX10 95 9 0 := ⟨_, rfl, by decide, ly9, rfl, wk_110, by decide⟩
theorem fl_6_140 : FL RX6 140 9 0 := ⟨_, rfl, by decide, ly9, rfl, wk_111, by decide⟩
theorem fl_9_13 : FL RX9 13 9 1 := ⟨_, rfl, by decide, ly9, rfl, wk_112, by decide⟩
theorem fl_2_68 : FL RX2 68 9 1 := ⟨_, rfl, by decide, ly9, rfl, wk_113, by decide⟩
theorem fl_10_100 : FL RX10 100 9 1 := ⟨_, rfl, by decide, ly9, rfl, wk_114, by decide⟩
theorem fl_6_146 : FL RX6 146 9 1 := ⟨_, rfl, by decide, ly9, rfl, wk_115, by decide⟩
theorem fl_9_16 : FL RX9 16 9 2 := ⟨_, rfl, by decide, ly9, rfl, wk_116, by decide⟩
theorem fl_0_112 : FL RX0 112 9 2 := ⟨_, rfl, by decide, ly9, rfl, wk_117, by decide⟩
theorem fl_3_155 : FL RX3 155 9 2 := ⟨_, rfl, by decide, ly9, rfl, wk_118, by decide⟩
theorem fl_10_103 : FL RX10 103 9 2 := ⟨_, rfl, by decide, ly9, rfl, wk_119, by decide⟩
theorem fl_6_151 : FL RX6 151 9 2 := ⟨_, rfl, by decide, ly9, rfl, wk_120, by decide⟩
theorem fl_9_19 : FL RX9 19 9 3 := ⟨_, rfl, by decide, ly9, rfl, wk_121, by decide⟩
theorem fl_3_112 : FL RX3 112 9 3 := ⟨_, rfl, by decide, ly9, rfl, wk_122, by decide⟩
theorem fl_0_127 : FL RX0 127 9 3 := ⟨_, rfl, by decide, ly9, rfl, wk_123, by decide⟩
theorem fl_10_106 : FL RX10 106 9 3 := ⟨_, rfl, by decide, ly9, rfl, wk_124, by decide⟩
theorem fl_6_156 : FL RX6 156 9 3 := ⟨_, rfl, by decide, ly9, rfl, wk_125, by decide⟩
theorem fl_9_22 : FL RX9 22 9 4 := ⟨_, rfl, by decide, ly9, rfl, wk_126, by decide⟩
theorem fl_3_108 : FL RX3 108 9 4 := ⟨_, rfl, by decide, ly9, rfl, wk_127, by decide⟩
theorem fl_2_80 : FL RX2 80 9 4 := ⟨_, rfl, by decide, ly9, rfl, wk_128, by decide⟩
theorem fl_10_109 : FL RX10 109 9 4 := ⟨_, rfl, by decide, ly9, rfl, wk_129, by decide⟩
theorem fl_6_160 : FL RX6 160 9 4 := ⟨_, rfl, by decide, ly9, rfl, wk_130, by decide⟩
theorem fl_9_25 : FL RX9 25 9 5 := ⟨_, rfl, by decide, ly9, rfl, wk_131, by decide⟩
theorem fl_3_137 : FL RX3 137 9 5 := ⟨_, rfl, by decide, ly9, rfl, wk_132, by decide⟩
theorem fl_2_77 : FL RX2 77 9 5 := ⟨_, rfl, by decide, ly9, rfl, wk_133, by decide⟩
theorem fl_10_112 : FL RX10 112 9 5 := ⟨_, rfl, by decide, ly9, rfl, wk_134, by decide⟩
theorem fl_6_166 : FL RX6 166 9 5 := ⟨_, rfl, by decide, ly9, rfl, wk_135, by decide⟩
theorem fl_9_28 : FL RX9 28 9 6 := ⟨_, rfl, by decide, ly9, rfl, wk_136, by decide⟩
theorem fl_2_83 : FL RX2 83 9 6 := ⟨_, rfl, by decide, ly9, rfl, wk_137, by decide⟩
theorem fl_10_115 : FL RX10 115 9 6 := ⟨_, rfl, by decide, ly9, rfl, wk_138, by decide⟩
theorem fl_6_169 : FL RX6 169 9 6 := ⟨_, rfl, by decide, ly9, rfl, wk_139, by decide⟩
theorem fl_3_177 : FL RX3 177 9 6 := ⟨_, rfl, by decide, ly9, rfl, wk_140, by decide⟩
theorem fl_1_21 : FL RX1 21 1 0 := ⟨_, rfl, by decide, ly1, rfl, wk_161, by decide⟩
theorem fl_0_110 : FL RX0 110 1 0 := ⟨_, rfl, by decide, ly1, rfl, wk_162, by decide⟩
theorem fl_10_125 : FL RX10 125 1 0 := ⟨_, rfl, by decide, ly1, rfl, wk_163, by decide⟩
theorem fl_6_185 : FL RX6 185 1 0 := ⟨_, rfl, by decide, ly1, rfl, wk_164, by decide⟩
theorem fl_4_61 : FL RX4 61 1 0 := ⟨_, rfl, by decide, ly1, rfl, wk_165, by decide⟩
theorem fl_1_25 : FL RX1 25 1 1 := ⟨_, rfl, by decide, ly1, rfl, wk_166, by decide⟩
theorem fl_3_122 : FL RX3 122 1 1 := ⟨_, rfl, by decide, ly1, rfl, wk_167, by decide⟩
theorem fl_10_130 : FL RX10 130 1 1 := ⟨_, rfl, by decide, ly1, rfl, wk_168, by decide⟩
theorem fl_6_192 : FL RX6 192 1 1 := ⟨_, rfl, by decide, ly1, rfl, wk_169, by decide⟩
theorem fl_1_28 : FL RX1 28 1 2 := ⟨_, rfl, by decide, ly1, rfl, wk_170, by decide⟩
theorem fl_3_171 : FL RX3 171 1 2 := ⟨_, rfl, by decide, ly1, rfl, wk_171, by decide⟩
theorem fl_10_133 : FL RX10 133 1 2 := ⟨_, rfl, by decide, ly1, rfl, wk_172, by decide⟩
theorem fl_6_204 : FL RX6 204 1 2 := ⟨_, rfl, by decide, ly1, rfl, wk_173, by decide⟩
theorem fl_1_31 : FL RX1 31 1 3 := ⟨_, rfl, by decide, ly1, rfl, wk_174, by decide⟩
theorem fl_3_128 : FL RX3 128 1 3 := ⟨_, rfl, by decide, ly1, rfl, wk_175, by decide⟩
theorem fl_10_136 : FL RX10 136 1 3 := ⟨_, rfl, by decide, ly1, rfl, wk_176, by decide⟩
theorem fl_6_200 : FL RX6 200 1 3 := ⟨_, rfl, by decide, ly1, rfl, wk_177, by decide⟩
theorem fl_1_9 : FL RX1 9 1 4 := ⟨_, rfl, by decide, ly1, rfl, wk_178, by decide⟩
theorem fl_10_139 : FL RX10 139 1 4 := ⟨_, rfl, by decide, ly1, rfl, wk_179, by decide⟩
theorem fl_6_217 : FL RX6 217 1 4 := ⟨_, rfl, by decide, ly1, rfl, wk_180, by decide⟩
theorem fl_1_15 : FL RX1 15 1 5 := ⟨_, rfl, by decide, ly1, rfl, wk_181, by decide⟩
theorem fl_0_56 : FL RX0 56 1 5 := ⟨_, rfl, by decide, ly1, rfl, wk_182, by decide⟩
theorem fl_3_126 : FL RX3 126 1 5 := ⟨_, rfl, by decide, ly1, rfl, wk_183, by decide⟩
theorem fl_10_142 : FL RX10 142 1 5 := ⟨_, rfl, by decide, ly1, rfl, wk_184, by decide⟩
theorem fl_6_220 : FL RX6 220 1 5 := ⟨_, rfl, by decide, ly1, rfl, wk_185, by decide⟩
theorem fl_1_18 : FL RX1 18 1 6 := ⟨_, rfl, by decide, ly1, rfl, wk_186, by decide⟩
theorem fl_0_128 : FL RX0 128 1 6 := ⟨_, rfl, by decide, ly1, rfl, wk_187, by decide⟩
theorem fl_3_161 : FL RX3 161 1 6 := ⟨_, rfl, by decide, ly1, rfl, wk_188, by decide⟩
theorem fl_10_144 : FL RX10 144 1 6 := ⟨_, rfl, by decide, ly1, rfl, wk_189, by decide⟩
theorem fl_6_224 : FL RX6 224 1 6 := ⟨_, rfl, by decide, ly1, rfl, wk_190, by decide⟩
theorem fl_4_32 : FL RX4 32 4 0 := ⟨_, rfl, by decide, ly4, rfl, wk_207, by decide⟩
theorem fl_3_88 : FL RX3 88 4 0 := ⟨_, rfl, by decide, ly4, rfl, wk_208, by decide⟩
theorem fl_2_61 : FL RX2 61 4 0 := ⟨_, rfl, by decide, ly4, rfl, wk_209, by decide⟩
theorem fl_6_100 : FL RX6 100 4 0 := ⟨_, rfl, by decide, ly4, rfl, wk_210, by decide⟩
theorem fl_10_334 : FL RX10 334 4 0 := ⟨_, rfl, by decide, ly4, rfl, wk_211, by decide⟩
theorem fl_4_36 : FL RX4 36 4 1 := ⟨_, rfl, by decide, ly4, rfl, wk_212, by decide⟩
theorem fl_3_78 : FL RX3 78 4 1 := ⟨_, rfl, by decide, ly4, rfl, wk_213, by decide⟩
theorem fl_2_29 : FL RX2 29 4 1 := ⟨_, rfl, by decide, ly4, rfl, wk_214, by decide⟩
theorem fl_5_32 : FL RX5 32 4 1 := ⟨_, rfl, by decide, ly4, rfl, wk_215, by decide⟩
theorem fl_0_80 : FL RX0 80 4 1 := ⟨_, rfl, by decide, ly4, rfl, wk_216, by decide⟩
theorem fl_6_104 : FL RX6 104 4 1 := ⟨_, rfl, by decide, ly4, rfl, wk_217, by decide⟩
theorem fl_10_166 : FL RX10 166 4 1 := ⟨_, rfl, by decide, ly4, rfl, wk_218, by decide⟩
theorem fl_4_39 : FL RX4 39 4 2 := ⟨_, rfl, by decide, ly4, rfl, wk_219, by decide⟩
theorem fl_6_46 : FL RX6 46 4 2 := ⟨_, rfl, by decide, ly4, rfl, wk_220, by decide⟩
theorem fl_10_78 : FL RX10 78 4 2 := ⟨_, rfl, by decide, ly4, rfl, wk_221, by decide⟩
theorem fl_2_19 : FL RX2 19 4 3 := ⟨_, rfl, by decide, ly4, rfl, wk_222, by decide⟩
theorem fl_4_42 : FL RX4 42 4 3 := ⟨_, rfl, by decide, ly4, rfl, wk_223, by decide⟩
theorem fl_6_106 : FL RX6 106 4 3 := ⟨_, rfl, by decide, ly4, rfl, wk_224, by decide⟩
theorem fl_10_308 : FL RX10 308 4 3 := ⟨_, rfl, by decide, ly4, rfl, wk_225, by decide⟩
theorem fl_4_45 : FL RX4 45 4 4 := ⟨_, rfl, by decide, ly4, rfl, wk_226, by decide⟩
theorem fl_2_36 : FL RX2 36 4 4 := ⟨_, rfl, by decide, ly4, rfl, wk_227, by decide⟩
theorem fl_5_45 : FL RX5 45 4 4 := ⟨_, rfl, by decide, ly4, rfl, wk_228, by decide⟩
theorem fl_3_101 : FL RX3 101 4 4 := ⟨_, rfl, by decide, ly4, rfl, wk_229, by decide⟩
theorem fl_0_83 : FL RX0 83 4 4 := ⟨_, rfl, by decide, ly4, rfl, wk_230, by decide⟩
theorem fl_6_133 : FL RX6 133 4 4 := ⟨_, rfl, by decide, ly4, rfl, wk_231, by decide⟩
theorem fl_10_172 : FL RX10 172 4 4 := ⟨_, rfl, by decide, ly4, rfl, wk_232, by decide⟩
theorem fl_4_48 : FL RX4 48 4 5 := ⟨_, rfl, by decide, ly4, rfl, wk_233, by decide⟩
theorem fl_3_115 : FL RX3 115 4 5 := ⟨_, rfl, by decide, ly4, rfl, wk_234, by decide⟩
theorem fl_6_178 : FL RX6 178 4 5 := ⟨_, rfl, by decide, ly4, rfl, wk_235, by decide⟩
theorem fl_10_267 : FL RX10 267 4 5 := ⟨_, rfl, by decide, ly4, rfl, wk_236, by decide⟩
theorem fl_4_11 : FL RX4 11 4 6 := ⟨_, rfl, by decide, ly4, rfl, wk_237, by decide⟩
theorem fl_2_25 : FL RX2 25 4 6 := ⟨_, rfl, by decide, ly4, rfl, wk_238, by decide⟩
theorem fl_6_113 : FL RX6 113 4 6 := ⟨_, rfl, by decide, ly4, rfl, wk_239, by decide⟩
theorem fl_10_311 : FL RX10 311 4 6 := ⟨_, rfl, by decide, ly4, rfl, wk_240, by decide⟩
theorem fl_4_19 : FL RX4 19 4 7 := ⟨_, rfl, by decide, ly4, rfl, wk_241, by decide⟩
theorem fl_3_104 : FL RX3 104 4 7 := ⟨_, rfl, by decide, ly4, rfl, wk_242, by decide⟩
theorem fl_0_90 : FL RX0 90 4 7 := ⟨_, rfl, by decide, ly4, rfl, wk_243, by decide⟩
theorem fl_2_52 : FL RX2 52 4 7 := ⟨_, rfl, by decide, ly4, rfl, wk_244, by decide⟩
theorem fl_10_91 : FL RX10 91 4 7 := ⟨_, rfl, by decide, ly4, rfl, wk_245, by decide⟩
theorem fl_6_136 : FL RX6 136 4 7 := ⟨_, rfl, by decide, ly4, rfl, wk_246, by decide⟩
theorem fl_4_25 : FL RX4 25 4 8 := ⟨_, rfl, by decide, ly4, rfl, wk_247, by decide⟩
theorem fl_0_30 : FL RX0 30 4 8 := ⟨_, rfl, by decide, ly4, rfl, wk_248, by decide⟩
theorem fl_3_118 : FL RX3 118 4 8 := ⟨_, rfl, by decide, ly4, rfl, wk_249, by decide⟩
theorem fl_10_121 : FL RX10 121 4 8 := ⟨_, rfl, by decide, ly4, rfl, wk_250, by decide⟩
theorem fl_6_181 : FL RX6 181 4 8 := ⟨_, rfl, by decide, ly4, rfl, wk_251, by decide⟩
theorem fl_2_11 : FL RX2 11 2 0 := ⟨_, rfl, by decide, ly2, rfl, wk_288, by decide⟩
theorem fl_2_16 : FL RX2 16 2 1 := ⟨_, rfl, by decide, ly2, rfl, wk_289, by decide⟩
theorem fl_5_48 : FL RX5 48 2 1 := ⟨_, rfl, by decide, ly2, rfl, wk_290, by decide⟩
theorem fl_0_106 : FL RX0 106 2 1 := ⟨_, rfl, by decide, ly2, rfl, wk_291, by decide⟩
theorem fl_3_148 : FL RX3 148 2 1 := ⟨_, rfl, by decide, ly2, rfl, wk_292, by decide⟩
theorem fl_10_158 : FL RX10 158 2 1 := ⟨_, rfl, by decide, ly2, rfl, wk_293, by decide⟩
theorem fl_3_12 : FL RX3 12 3 0 := ⟨_, rfl, by decide, ly3, rfl, wk_301, by decide⟩
theorem fl_10_154 : FL RX10 154 3 0 := ⟨_, rfl, by decide, ly3, rfl, wk_302, by decide⟩
theorem fl_3_20 : FL RX3 20 3 1 := ⟨_, rfl, by decide, ly3, rfl, wk_303, by decide⟩
theorem fl_10_179 : FL RX10 179 3 1 := ⟨_, rfl, by decide, ly3, rfl, wk_304, by decide⟩
theorem fl_3_23 : FL RX3 23 3 2 := ⟨_, rfl, by decide, ly3, rfl, wk_305, by decide⟩
theorem fl_10_182 : FL RX10 182 3 2 := ⟨_, rfl, by decide, ly3, rfl, wk_306, by decide⟩
theorem fl_3_26 : FL RX3 26 3 3 := ⟨_, rfl, by decide, ly3, rfl, wk_307, by decide⟩
theorem fl_10_207 : FL RX10 207 3 3 := ⟨_, rfl, by decide, ly3, rfl, wk_308, by decide⟩
theorem fl_3_98 : FL RX3 98 3 4 := ⟨_, rfl, by decide, ly3, rfl, wk_309, by decide⟩
theorem fl_10_214 : FL RX10 214 3 4 := ⟨_, rfl, by decide, ly3, rfl, wk_310, by decide⟩
theorem fl_3_29 : FL RX3 29 3 5 := ⟨_, rfl, by decide, ly3, rfl, wk_311, by decide⟩
theorem fl_10_217 : FL RX10 217 3 5 := ⟨_, rfl, by decide, ly3, rfl, wk_312, by decide⟩
theorem fl_3_33 : FL RX3 33 3 6 := ⟨_, rfl, by decide, ly3, rfl, wk_313, by decide⟩
theorem fl_10_220 : FL RX10 220 3 6 := ⟨_, rfl, by decide, ly3, rfl, wk_314, by decide⟩
theorem fl_3_36 : FL RX3 36 3 7 := ⟨_, rfl, by decide, ly3, rfl, wk_315, by decide⟩
theorem fl_10_223 : FL RX10 223 3 7 := ⟨_, rfl, by decide, ly3, rfl, wk_316, by decide⟩
theorem fl_3_39 : FL RX3 39 3 8 := ⟨_, rfl, by decide, ly3, rfl, wk_317, by decide⟩
theorem fl_10_226 : FL RX10 226 3 8 := ⟨_, rfl, by decide, ly3, rfl, wk_318, by decide⟩
theorem fl_3_42 : FL RX3 42 3 9 := ⟨_, rfl, by decide, ly3, rfl, wk_319, by decide⟩
theorem fl_10_204 : FL RX10 204 3 9 := ⟨_, rfl, by decide, ly3, rfl, wk_320, by decide⟩
theorem fl_3_67 : FL RX3 67 3 10 := ⟨_, rfl, by decide, ly3, rfl, wk_321, by decide⟩
theorem fl_3_45 : FL RX3 45 3 11 := ⟨_, rfl, by decide, ly3, rfl, wk_322, by decide⟩
theorem fl_3_48 : FL RX3 48 3 12 := ⟨_, rfl, by decide, ly3, rfl, wk_323, by decide⟩
theorem fl_3_51 : FL RX3 51 3 13 := ⟨_, rfl, by decide, ly3, rfl, wk_324, by decide⟩
theorem fl_3_55 : FL RX3 55 3 14 := ⟨_, rfl, by decide, ly3, rfl, wk_325, by decide⟩
theorem fl_3_58 : FL RX3 58 3 15 := ⟨_, rfl, by decide, ly3, rfl, wk_326, by decide⟩
theorem fl_3_61 : FL RX3 61 3 16 := ⟨_, rfl, by decide, ly3, rfl, wk_327, by decide⟩
theorem fl_3_64 : FL RX3 64 3 17 := ⟨_, rfl, by decide, ly3, rfl, wk_328, by decide⟩
theorem fl_0_40 : FL RX0 40 0 0 := ⟨_, rfl, by decide, ly0, rfl, wk_372, by decide⟩
theorem fl_10_246 : FL RX10 246 0 0 := ⟨_, rfl, by decide, ly0, rfl, wk_373, by decide⟩
theorem fl_0_44 : FL RX0 44 0 1 := ⟨_, rfl, by decide, ly0, rfl, wk_374, by decide⟩
theorem fl_10_247 : FL RX10 247 0 1 := ⟨_, rfl, by decide, ly0, rfl, wk_375, by decide⟩
theorem fl_0_9 : FL RX0 9 0 2 := ⟨_, rfl, by decide, ly0, rfl, wk_376, by decide⟩
theorem fl_10_250 : FL RX10 250 0 2 := ⟨_, rfl, by decide, ly0, rfl, wk_377, by decide⟩
theorem fl_0_22 : FL RX0 22 0 3 := ⟨_, rfl, by decide, ly0, rfl, wk_378, by decide⟩
theorem fl_0_26 : FL RX0 26 0 4 := ⟨_, rfl, by decide, ly0, rfl, wk_379, by decide⟩
theorem fl_0_36 : FL RX0 36 0 5 := ⟨_, rfl, by decide, ly0, rfl, wk_380, by decide⟩
theorem fl_0_15 : FL RX0 15 0 6 := ⟨_, rfl, by decide, ly0, rfl, wk_381, by decide⟩
theorem fl_0_18 : FL RX0 18 0 7 := ⟨_, rfl, by decide, ly0, rfl, wk_382, by decide⟩
theorem fl_0_100 : FL RX0 100 0 8 := ⟨_, rfl, by decide, ly0, rfl, wk_383, by decide⟩
theorem fl_0_103 : FL RX0 103 0 9 := ⟨_, rfl, by decide, ly0, rfl, wk_384, by decide⟩
theorem fl_0_74 : FL RX0 74 0 10 := ⟨_, rfl, by decide, ly0, rfl, wk_385, by decide⟩
theorem fl_5_18 : FL RX5 18 5 0 := ⟨_, rfl, by decide, ly5, rfl, wk_416, by decide⟩
theorem fl_10_261 : FL RX10 261 5 0 := ⟨_, rfl, by decide, ly5, rfl, wk_417, by decide⟩
theorem fl_5_23 : FL RX5 23 5 1 := ⟨_, rfl, by decide, ly5, rfl, wk_418, by decide⟩
theorem fl_10_264 : FL RX10 264 5 1 := ⟨_, rfl, by decide, ly5, rfl, wk_419, by decide⟩
theorem fl_5_9 : FL RX5 9 5 2 := ⟨_, rfl, by decide, ly5, rfl, wk_420, by decide⟩
theorem fl_5_15 : FL RX5 15 5 3 := ⟨_, rfl, by decide, ly5, rfl, wk_421, by decide⟩
theorem fl_8_9 : FL RX8 9 8 0 := ⟨_, rfl, by decide, ly8, rfl, wk_436, by decide⟩
theorem fl_10_290 : FL RX10 290 8 0 := ⟨_, rfl, by decide, ly8, rfl, wk_437, by decide⟩
theorem fl_8_19 : FL RX8 19 8 1 := ⟨_, rfl, by decide, ly8, rfl, wk_438, by decide⟩
theorem fl_10_355 : FL RX10 355 8 1 := ⟨_, rfl, by decide, ly8, rfl, wk_439, by decide⟩
theorem fl_8_23 : FL RX8 23 8 2 := ⟨_, rfl, by decide, ly8, rfl, wk_440, by decide⟩
theorem fl_10_293 : FL RX10 293 8 2 := ⟨_, rfl, by decide, ly8, rfl, wk_441, by decide⟩
theorem fl_8_15 : FL RX8 15 8 3 := ⟨_, rfl, by decide, ly8, rfl, wk_442, by decide⟩
theorem fl_10_330 : FL RX10 330 8 3 := ⟨_, rfl, by decide, ly8, rfl, wk_443, by decide⟩
theorem fl_10_12 : FL RX10 12 10 0 := ⟨_, rfl, by decide, ly10, rfl, wk_453, by decide⟩
theorem fl_10_19 : FL RX10 19 10 1 := ⟨_, rfl, by decide, ly10, rfl, wk_454, by decide⟩
theorem fl_10_23 : FL RX10 23 10 2 := ⟨_, rfl, by decide, ly10, rfl, wk_455, by decide⟩
theorem fl_10_26 : FL RX10 26 10 3 := ⟨_, rfl, by decide, ly10, rfl, wk_456, by decide⟩
theorem fl_10_30 : FL RX10 30 10 4 := ⟨_, rfl, by decide, ly10, rfl, wk_457, by decide⟩
theorem fl_10_36 : FL RX10 36 10 5 := ⟨_, rfl, by decide, ly10, rfl, wk_458, by decide⟩
theorem fl_10_43 : FL RX10 43 10 6 := ⟨_, rfl, by decide, ly10, rfl, wk_459, by decide⟩
theorem fl_10_47 : FL RX10 47 10 7 := ⟨_, rfl, by decide, ly10, rfl, wk_460, by decide⟩
theorem fl_10_54 : FL RX10 54 10 8 := ⟨_, rfl, by decide, ly10, rfl, wk_461, by decide⟩
theorem fl_10_61 : FL RX10 61 10 9 := ⟨_, rfl, by decide, ly10, rfl, wk_462, by decide⟩
theorem fl_11_122 : FL RX11 122 11 0 := ⟨_, rfl, by decide, ly11, rfl, wk_1123, by decide⟩
theorem fl_11_7 : FL RX11 7 11 1 := ⟨_, rfl, by decide, ly11, rfl, wk_1124, by decide⟩
theorem fl_11_13 : FL RX11 13 11 2 := ⟨_, rfl, by decide, ly11, rfl, wk_1125, by decide⟩
theorem fl_11_16 : FL RX11 16 11 3 := ⟨_, rfl, by decide, ly11, rfl, wk_1126, by decide⟩
theorem fl_11_20 : FL RX11 20 11 4 := ⟨_, rfl, by decide, ly11, rfl, wk_1127, by decide⟩
theorem fl_11_23 : FL RX11 23 11 5 := ⟨_, rfl, by decide, ly11, rfl, wk_1128, by decide⟩
theorem fl_11_139 : FL RX11 139 11 6 := ⟨_, rfl, by decide, ly11, rfl, wk_1129, by decide⟩
theorem fl_11_146 : FL RX11 146 11 7 := ⟨_, rfl, by decide, ly11, rfl, wk_1130, by decide⟩
theorem fl_11_163 : FL RX11 163 11 8 := ⟨_, rfl, by decide, ly11, rfl, wk_1131, by decide⟩
theorem fl_11_153 : FL RX11 153 11 9 := ⟨_, rfl, by decide, ly11, rfl, wk_1132, by decide⟩
theorem fl_11_156 : FL RX11 156 11 10 := ⟨_, rfl, by decide, ly11, rfl, wk_1133, by decide⟩
theorem fl_11_159 : FL RX11 159 11 11 := ⟨_, rfl, by decide, ly11, rfl, wk_1134, by decide⟩
theorem fl_11_174 : FL RX11 174 11 12 := ⟨_, rfl, by decide, ly11, rfl, wk_1135, by decide⟩
theorem fl_11_177 : FL RX11 177 11 13 := ⟨_, rfl, by decide, ly11, rfl, wk_1136, by decide⟩
theorem fl_11_201 : FL RX11 201 11 14 := ⟨_, rfl, by decide, ly11, rfl, wk_1137, by decide⟩
theorem fl_11_27 : FL RX11 27 11 15 := ⟨_, rfl, by decide, ly11, rfl, wk_1138, by decide⟩
theorem fl_11_31 : FL RX11 31 11 16 := ⟨_, rfl, by decide, ly11, rfl, wk_1139, by decide⟩
theorem fl_11_34 : FL RX11 34 11 17 := ⟨_, rfl, by decide, ly11, rfl, wk_1140, by decide⟩
theorem fl_11_37 : FL RX11 37 11 18 := ⟨_, rfl, by decide, ly11, rfl, wk_1141, by decide⟩
theorem fl_11_40 : FL RX11 40 11 19 := ⟨_, rfl, by decide, ly11, rfl, wk_1142, by decide⟩
theorem fl_11_43 : FL RX11 43 11 20 := ⟨_, rfl, by decide, ly11, rfl, wk_1143, by decide⟩
theorem fl_11_46 : FL RX11 46 11 21 := ⟨_, rfl, by decide, ly11, rfl, wk_1144, by decide⟩
theorem fl_11_49 : FL RX11 49 11 22 := ⟨_, rfl, by decide, ly11, rfl, wk_1145, by decide⟩
theorem fl_11_52 : FL RX11 52 11 23 := ⟨_, rfl, by decide, ly11, rfl, wk_1146, by decide⟩
theorem fl_11_56 : FL RX11 56 11 24 := ⟨_, rfl, by decide, ly11, rfl, wk_1147, by decide⟩
theorem fl_11_318 : FL RX11 318 11 25 := ⟨_, rfl, by decide, ly11, rfl, wk_1148, by decide⟩
theorem fl_11_321 : FL RX11 321 11 26 := ⟨_, rfl, by decide, ly11, rfl, wk_1149, by decide⟩
theorem fl_11_337 : FL RX11 337 11 27 := ⟨_, rfl, by decide, ly11, rfl, wk_1150, by decide⟩
theorem fl_11_326 : FL RX11 326 11 28 := ⟨_, rfl, by decide, ly11, rfl, wk_1151, by decide⟩
theorem fl_11_59 : FL RX11 59 11 29 := ⟨_, rfl, by decide, ly11, rfl, wk_1152, by decide⟩
theorem fl_11_62 : FL RX11 62 11 30 := ⟨_, rfl, by decide, ly11, rfl, wk_1153, by decide⟩
theorem fl_11_65 : FL RX11 65 11 31 := ⟨_, rfl, by decide, ly11, rfl, wk_1154, by decide⟩
theorem fl_11_68 : FL RX11 68 11 32 := ⟨_, rfl, by decide, ly11, rfl, wk_1155, by decide⟩
theorem fl_11_71 : FL RX11 71 11 33 := ⟨_, rfl, by decide, ly11, rfl, wk_1156, by decide⟩
theorem fl_11_74 : FL RX11 74 11 34 := ⟨_, rfl, by decide, ly11, rfl, wk_1157, by decide⟩
theorem fl_11_77 : FL RX11 77 11 35 := ⟨_, rfl, by decide, ly11, rfl, wk_1158, by decide⟩
theorem fl_11_80 : FL RX11 80 11 36 := ⟨_, rfl, by decide, ly11, rfl, wk_1159, by decide⟩
theorem fl_11_83 : FL RX11 83 11 37 := ⟨_, rfl, by decide, ly11, rfl, wk_1160, by decide⟩
theorem fl_11_86 : FL RX11 86 11 38 := ⟨_, rfl, by decide, ly11, rfl, wk_1161, by decide⟩
theorem fl_11_89 : FL RX11 89 11 39 := ⟨_, rfl, by decide, ly11, rfl, wk_1162, by decide⟩
theorem fl_11_92 : FL RX11 92 11 40 := ⟨_, rfl, by decide, ly11, rfl, wk_1163, by decide⟩
theorem fl_11_95 : FL RX11 95 11 41 := ⟨_, rfl, by decide, ly11, rfl, wk_1164, by decide⟩
theorem fl_11_98 : FL RX11 98 11 42 := ⟨_, rfl, by decide, ly11, rfl, wk_1165, by decide⟩
theorem fl_11_101 : FL RX11 101 11 43 := ⟨_, rfl, by decide, ly11, rfl, wk_1166, by decide⟩
theorem fl_11_104 : FL RX11 104 11 44 := ⟨_, rfl, by decide, ly11, rfl, wk_1167, by decide⟩
theorem fl_11_107 : FL RX11 107 11 45 := ⟨_, rfl, by decide, ly11, rfl, wk_1168, by decide⟩
theorem fl_11_371 : FL RX11 371 11 46 := ⟨_, rfl, by decide, ly11, rfl, wk_1169, by decide⟩
theorem fl_11_374 : FL RX11 374 11 47 := ⟨_, rfl, by decide, ly11, rfl, wk_1170, by decide⟩
theorem fl_11_408 : FL RX11 408 11 48 := ⟨_, rfl, by decide, ly11, rfl, wk_1171, by decide⟩
theorem fl_11_411 : FL RX11 411 11 49 := ⟨_, rfl, by decide, ly11, rfl, wk_1172, by decide⟩
theorem fl_11_110 : FL RX11 110 11 50 := ⟨_, rfl, by decide, ly11, rfl, wk_1173, by decide⟩
theorem fl_11_113 : FL RX11 113 11 51 := ⟨_, rfl, by decide, ly11, rfl, wk_1174, by decide⟩
theorem fl_11_116 : FL RX11 116 11 52 := ⟨_, rfl, by decide, ly11, rfl, wk_1175, by decide⟩
theorem fl_11_119 : FL RX11 119 11 53 := ⟨_, rfl, by decide, ly11, rfl, wk_1176, by decide⟩
theorem fp_0_0 : FP 0 0 (.int) := ⟨_, tyX0, rfl, tyX0_ok, nmX0, rfl, by decide +kernel⟩
theorem fp_0_1 : FP 0 1 (.int) := ⟨_, tyX0, rfl, tyX0_ok, nmX0, rfl, by decide +kernel⟩
theorem fp_0_3 : FP 0 3 (.object "TurningMarket$Market") := ⟨_, tyX0, rfl, tyX0_ok, nmX0, rfl, by decide +kernel⟩
theorem fp_0_4 : FP 0 4 (.object "TurningMarket$Course") := ⟨_, tyX0, rfl, tyX0_ok, nmX0, rfl, by decide +kernel⟩
theorem fp_0_5 : FP 0 5 (.object "TurningMarket$Buyer") := ⟨_, tyX0, rfl, tyX0_ok, nmX0, rfl, by decide +kernel⟩
theorem fp_0_8 : FP 0 8 (.int) := ⟨_, tyX0, rfl, tyX0_ok, nmX0, rfl, by decide +kernel⟩
theorem fp_0_9 : FP 0 9 (.int) := ⟨_, tyX0, rfl, tyX0_ok, nmX0, rfl, by decide +kernel⟩
theorem fp_0_10 : FP 0 10 (.int) := ⟨_, tyX0, rfl, tyX0_ok, nmX0, rfl, by decide +kernel⟩
theorem fp_1_0 : FP 1 0 (.int) := ⟨_, tyX1, rfl, tyX1_ok, nmX1, rfl, by decide +kernel⟩
theorem fp_1_1 : FP 1 1 (.int) := ⟨_, tyX1, rfl, tyX1_ok, nmX1, rfl, by decide +kernel⟩
theorem fp_1_2 : FP 1 2 (.int) := ⟨_, tyX1, rfl, tyX1_ok, nmX1, rfl, by decide +kernel⟩
theorem fp_1_3 : FP 1 3 (.int) := ⟨_, tyX1, rfl, tyX1_ok, nmX1, rfl, by decide +kernel⟩
theorem fp_3_4 : FP 3 4 (.int) := ⟨_, tyX3, rfl, tyX3_ok, nmX3, rfl, by decide +kernel⟩
theorem fp_3_10 : FP 3 10 (.object "TurningMarket$Market") := ⟨_, tyX3, rfl, tyX3_ok, nmX3, rfl, by decide +kernel⟩
theorem fp_4_0 : FP 4 0 (.int) := ⟨_, tyX4, rfl, tyX4_ok, nmX4, rfl, by decide +kernel⟩
theorem fp_4_1 : FP 4 1 (.int) := ⟨_, tyX4, rfl, tyX4_ok, nmX4, rfl, by decide +kernel⟩
theorem fp_4_2 : FP 4 2 (.int) := ⟨_, tyX4, rfl, tyX4_ok, nmX4, rfl, by decide +kernel⟩
theorem fp_4_3 : FP 4 3 (.int) := ⟨_, tyX4, rfl, tyX4_ok, nmX4, rfl, by decide +kernel⟩
theorem fp_4_4 : FP 4 4 (.int) := ⟨_, tyX4, rfl, tyX4_ok, nmX4, rfl, by decide +kernel⟩
theorem fp_4_5 : FP 4 5 (.int) := ⟨_, tyX4, rfl, tyX4_ok, nmX4, rfl, by decide +kernel⟩
theorem fp_5_0 : FP 5 0 (.int) := ⟨_, tyX5, rfl, tyX5_ok, nmX5, rfl, by decide +kernel⟩
theorem fp_5_1 : FP 5 1 (.int) := ⟨_, tyX5, rfl, tyX5_ok, nmX5, rfl, by decide +kernel⟩
theorem fp_6_1 : FP 6 1 (.int) := ⟨_, tyX6, rfl, tyX6_ok, nmX6, rfl, by decide +kernel⟩
theorem fp_6_2 : FP 6 2 (.int) := ⟨_, tyX6, rfl, tyX6_ok, nmX6, rfl, by decide +kernel⟩
theorem fp_6_3 : FP 6 3 (.int) := ⟨_, tyX6, rfl, tyX6_ok, nmX6, rfl, by decide +kernel⟩
theorem fp_6_4 : FP 6 4 (.int) := ⟨_, tyX6, rfl, tyX6_ok, nmX6, rfl, by decide +kernel⟩
theorem fp_6_5 : FP 6 5 (.int) := ⟨_, tyX6, rfl, tyX6_ok, nmX6, rfl, by decide +kernel⟩
theorem fp_6_6 : FP 6 6 (.int) := ⟨_, tyX6, rfl, tyX6_ok, nmX6, rfl, by decide +kernel⟩
theorem fp_6_7 : FP 6 7 (.int) := ⟨_, tyX6, rfl, tyX6_ok, nmX6, rfl, by decide +kernel⟩
theorem fp_6_8 : FP 6 8 (.int) := ⟨_, tyX6, rfl, tyX6_ok, nmX6, rfl, by decide +kernel⟩
theorem fp_7_0 : FP 7 0 (.int) := ⟨_, tyX7, rfl, tyX7_ok, nmX7, rfl, by decide +kernel⟩
theorem fp_7_1 : FP 7 1 (.boolean) := ⟨_, tyX7, rfl, tyX7_ok, nmX7, rfl, by decide +kernel⟩
theorem fp_7_2 : FP 7 2 (.long) := ⟨_, tyX7, rfl, tyX7_ok, nmX7, rfl, by decide +kernel⟩
theorem fp_8_0 : FP 8 0 (.boolean) := ⟨_, tyX8, rfl, tyX8_ok, nmX8, rfl, by decide +kernel⟩
theorem fp_8_1 : FP 8 1 (.int) := ⟨_, tyX8, rfl, tyX8_ok, nmX8, rfl, by decide +kernel⟩
theorem fp_8_2 : FP 8 2 (.int) := ⟨_, tyX8, rfl, tyX8_ok, nmX8, rfl, by decide +kernel⟩
theorem fp_9_0 : FP 9 0 (.int) := ⟨_, tyX9, rfl, tyX9_ok, nmX9, rfl, by decide +kernel⟩
theorem fp_9_1 : FP 9 1 (.int) := ⟨_, tyX9, rfl, tyX9_ok, nmX9, rfl, by decide +kernel⟩
theorem fp_9_2 : FP 9 2 (.int) := ⟨_, tyX9, rfl, tyX9_ok, nmX9, rfl, by decide +kernel⟩
theorem fp_9_3 : FP 9 3 (.int) := ⟨_, tyX9, rfl, tyX9_ok, nmX9, rfl, by decide +kernel⟩
theorem fp_9_4 : FP 9 4 (.int) := ⟨_, tyX9, rfl, tyX9_ok, nmX9, rfl, by decide +kernel⟩
theorem fp_9_5 : FP 9 5 (.int) := ⟨_, tyX9, rfl, tyX9_ok, nmX9, rfl, by decide +kernel⟩
theorem fp_9_6 : FP 9 6 (.int) := ⟨_, tyX9, rfl, tyX9_ok, nmX9, rfl, by decide +kernel⟩
theorem fp_10_1 : FP 10 1 (.object "TurningMarket$Market") := ⟨_, tyX10, rfl, tyX10_ok, nmX10, rfl, by decide +kernel⟩
theorem fp_10_2 : FP 10 2 (.object "TurningMarket$Market") := ⟨_, tyX10, rfl, tyX10_ok, nmX10, rfl, by decide +kernel⟩
theorem fp_10_7 : FP 10 7 (.boolean) := ⟨_, tyX10, rfl, tyX10_ok, nmX10, rfl, by decide +kernel⟩
theorem fp_11_0 : FP 11 0 (.int) := ⟨_, tyX11, rfl, tyX11_ok, nmX11, rfl, by decide +kernel⟩
theorem fp_11_6 : FP 11 6 (.int) := ⟨_, tyX11, rfl, tyX11_ok, nmX11, rfl, by decide +kernel⟩
theorem fp_11_7 : FP 11 7 (.int) := ⟨_, tyX11, rfl, tyX11_ok, nmX11, rfl, by decide +kernel⟩
theorem fp_11_8 : FP 11 8 (.int) := ⟨_, tyX11, rfl, tyX11_ok, nmX11, rfl, by decide +kernel⟩
theorem fp_11_9 : FP 11 9 (.int) := ⟨_, tyX11, rfl, tyX11_ok, nmX11, rfl, by decide +kernel⟩
theorem fp_11_10 : FP 11 10 (.int) := ⟨_, tyX11, rfl, tyX11_ok, nmX11, rfl, by decide +kernel⟩
theorem fp_11_11 : FP 11 11 (.long) := ⟨_, tyX11, rfl, tyX11_ok, nmX11, rfl, by decide +kernel⟩
theorem fp_11_12 : FP 11 12 (.int) := ⟨_, tyX11, rfl, tyX11_ok, nmX11, rfl, by decide +kernel⟩
theorem fp_11_13 : FP 11 13 (.int) := ⟨_, tyX11, rfl, tyX11_ok, nmX11, rfl, by decide +kernel⟩
theorem fp_11_14 : FP 11 14 (.int) := ⟨_, tyX11, rfl, tyX11_ok, nmX11, rfl, by decide +kernel⟩
theorem fp_11_15 : FP 11 15 (.int) := ⟨_, tyX11, rfl, tyX11_ok, nmX11, rfl, by decide +kernel⟩
theorem fp_11_25 : FP 11 25 (.int) := ⟨_, tyX11, rfl, tyX11_ok, nmX11, rfl, by decide +kernel⟩
theorem fp_11_26 : FP 11 26 (.int) := ⟨_, tyX11, rfl, tyX11_ok, nmX11, rfl, by decide +kernel⟩
theorem fp_11_27 : FP 11 27 (.int) := ⟨_, tyX11, rfl, tyX11_ok, nmX11, rfl, by decide +kernel⟩
theorem fp_11_28 : FP 11 28 (.long) := ⟨_, tyX11, rfl, tyX11_ok, nmX11, rfl, by decide +kernel⟩
theorem fp_11_46 : FP 11 46 (.int) := ⟨_, tyX11, rfl, tyX11_ok, nmX11, rfl, by decide +kernel⟩
theorem fp_11_47 : FP 11 47 (.int) := ⟨_, tyX11, rfl, tyX11_ok, nmX11, rfl, by decide +kernel⟩
theorem fp_11_48 : FP 11 48 (.int) := ⟨_, tyX11, rfl, tyX11_ok, nmX11, rfl, by decide +kernel⟩
theorem fp_11_49 : FP 11 49 (.int) := ⟨_, tyX11, rfl, tyX11_ok, nmX11, rfl, by decide +kernel⟩
theorem lk_10_18 : Cond.methodLink RX10 18 yX4_init ∈ WALL := wk_69
theorem lk_10_70 : Cond.methodLink RX10 70 yX6_add ∈ WALL := wk_488
theorem lk_10_74 : Cond.methodLink RX10 74 yX6_read ∈ WALL := wk_500
theorem lk_6_31 : Cond.methodLink RX6 31 yX4_clear ∈ WALL := wk_504
theorem lk_6_36 : Cond.methodLink RX6 36 yX6_next ∈ WALL := wk_508
theorem lk_6_244 : Cond.methodLink RX6 244 yX6_isLetter ∈ WALL := wk_512
theorem lk_6_248 : Cond.methodLink RX6 248 yX6_takeWord ∈ WALL := wk_515
theorem lk_6_251 : Cond.methodLink RX6 251 yX6_isDigit ∈ WALL := wk_519
theorem lk_6_254 : Cond.methodLink RX6 254 yX6_takeNumber ∈ WALL := wk_522
theorem lk_6_258 : Cond.methodLink RX6 258 yX20_min ∈ WALL := wk_527
theorem lk_6_42 : Cond.methodLink RX6 42 yX6_readLine ∈ WALL := wk_530
theorem lk_6_49 : Cond.methodLink RX6 49 yX6_readMarket ∈ WALL := wk_534
theorem lk_6_90 : Cond.methodLink RX6 90 yX6_word ∈ WALL := wk_539
theorem lk_6_54 : Cond.methodLink RX6 54 yX6_isWord ∈ WALL := wk_543
theorem lk_6_235 : Cond.methodLink RX6 235 yX23_length ∈ WALL := wk_547
theorem lk_23_335 : Cond.methodLink RX23 335 yX23_coder ∈ WALL := wk_551
theorem lk_6_240 : Cond.methodLink RX6 240 yX23_charAt ∈ WALL := wk_557
theorem lk_23_492 : Cond.methodLink RX23 492 yX23_isLatin1 ∈ WALL := wk_561
theorem lk_23_495 : Cond.methodLink RX23 495 yX24_charAt ∈ WALL := wk_565
theorem lk_24_9 : Cond.methodLink RX24 9 yX23_checkIndex ∈ WALL := wk_568
theorem lk_23_1059 : Cond.methodLink RX23 1059 yX25_checkIndex ∈ WALL := wk_573
theorem lk_6_81 : Cond.methodLink RX6 81 yX6_refuse ∈ WALL := wk_595
theorem lk_6_96 : Cond.methodLink RX6 96 yX6_number ∈ WALL := wk_600
theorem lk_6_210 : Cond.methodLink RX6 210 yX6_numberHere ∈ WALL := wk_604
theorem lk_6_58 : Cond.methodLink RX6 58 yX6_readRing ∈ WALL := wk_610
theorem lk_6_109 : Cond.methodLink RX6 109 yX6_isFull ∈ WALL := wk_614
theorem lk_6_63 : Cond.methodLink RX6 63 yX6_readStall ∈ WALL := wk_622
theorem lk_6_162 : Cond.methodLink RX6 162 yX6_readKind ∈ WALL := wk_630
theorem lk_6_68 : Cond.methodLink RX6 68 yX6_readBuyer ∈ WALL := wk_638
theorem lk_6_196 : Cond.methodLink RX6 196 yX6_readHabit ∈ WALL := wk_644
theorem lk_6_73 : Cond.methodLink RX6 73 yX6_readWants ∈ WALL := wk_652
theorem lk_6_213 : Cond.methodLink RX6 213 yX1_wantOf ∈ WALL := wk_656
theorem lk_6_78 : Cond.methodLink RX6 78 yX6_readStuck ∈ WALL := wk_662
theorem lk_6_85 : Cond.methodLink RX6 85 yX6_sign ∈ WALL := wk_668
theorem lk_10_87 : Cond.methodLink RX10 87 yX4_hasStall ∈ WALL := wk_680
theorem lk_10_118 : Cond.methodLink RX10 118 yX4_hasBuyer ∈ WALL := wk_688
theorem lk_10_147 : Cond.methodLink RX10 147 yX4_hasMinute ∈ WALL := wk_700
theorem lk_10_150 : Cond.methodLink RX10 150 yX10_toldHour ∈ WALL := wk_704
theorem lk_10_368 : Cond.methodLink RX10 368 yX3_play ∈ WALL := wk_708
theorem lk_3_71 : Cond.methodLink RX3 71 yX2_follow ∈ WALL := wk_712
theorem lk_2_32 : Cond.methodLink RX2 32 yX2_turnRing ∈ WALL := wk_716
theorem lk_2_39 : Cond.methodLink RX2 39 yX2_carry ∈ WALL := wk_719
theorem lk_2_71 : Cond.methodLink RX2 71 yX20_floorMod ∈ WALL := wk_723
theorem lk_3_75 : Cond.methodLink RX3 75 yX3_begin ∈ WALL := wk_726
theorem cp_3_131 : CPW RX3 131 := ⟨wk_730, wk_732, wk_731, wk_18⟩
theorem lk_3_84 : Cond.methodLink RX3 84 yX3_openMinute ∈ WALL := wk_733
theorem lk_3_140 : Cond.methodLink RX3 140 yX2_quietPrice ∈ WALL := wk_737
theorem lk_2_86 : Cond.methodLink RX2 86 yX20_max ∈ WALL := wk_741
theorem lk_3_91 : Cond.methodLink RX3 91 yX3_tradeAt ∈ WALL := wk_744
theorem lk_3_144 : Cond.methodLink RX3 144 yX4_buyersAt ∈ WALL := wk_748
theorem lk_3_151 : Cond.methodLink RX3 151 yX3_meet ∈ WALL := wk_752
theorem lk_3_158 : Cond.methodLink RX3 158 yX1_wantOf ∈ WALL := wk_756
theorem lk_3_164 : Cond.methodLink RX3 164 yX3_wouldBuy ∈ WALL := wk_757
theorem lk_3_168 : Cond.methodLink RX3 168 yX3_sell ∈ WALL := wk_761
theorem lk_3_174 : Cond.methodLink RX3 174 yX3_lackOf ∈ WALL := wk_765
theorem lk_3_95 : Cond.methodLink RX3 95 yX3_closeMinute ∈ WALL := wk_769
theorem lk_3_180 : Cond.methodLink RX3 180 yX3_learn ∈ WALL := wk_773
theorem lk_3_183 : Cond.methodLink RX3 183 yX20_min ∈ WALL := wk_777
theorem lk_3_189 : Cond.methodLink RX3 189 yX20_max ∈ WALL := wk_778
theorem lk_10_163 : Cond.methodLink RX10 163 yX4_hasPlace ∈ WALL := wk_783
theorem lk_10_169 : Cond.methodLink RX10 169 yX4_hasRing ∈ WALL := wk_791
theorem lk_10_175 : Cond.methodLink RX10 175 yX10_areTwoStalls ∈ WALL := wk_799
theorem lk_10_185 : Cond.methodLink RX10 185 yX3_salesAt ∈ WALL := wk_819
theorem lk_10_189 : Cond.methodLink RX10 189 yX3_takenAt ∈ WALL := wk_823
theorem lk_10_192 : Cond.methodLink RX10 192 yX3_firstMinuteAt ∈ WALL := wk_827
theorem lk_10_195 : Cond.methodLink RX10 195 yX3_salesTo ∈ WALL := wk_835
theorem lk_10_198 : Cond.methodLink RX10 198 yX3_spentBy ∈ WALL := wk_839
theorem lk_10_201 : Cond.methodLink RX10 201 yX3_lackOf ∈ WALL := wk_843
theorem lk_10_210 : Cond.methodLink RX10 210 yX4_isTold ∈ WALL := wk_852
theorem lk_10_229 : Cond.methodLink RX10 229 yX3_paidInAll ∈ WALL := wk_860
theorem lk_10_233 : Cond.methodLink RX10 233 yX3_lackInAll ∈ WALL := wk_864
theorem lk_10_236 : Cond.methodLink RX10 236 yX3_buyersDone ∈ WALL := wk_868
theorem lk_10_239 : Cond.methodLink RX10 239 yX3_busiestMinute ∈ WALL := wk_872
theorem lk_10_242 : Cond.methodLink RX10 242 yX0_shop ∈ WALL := wk_880
theorem lk_0_47 : Cond.methodLink RX0 47 yX21_fillI ∈ WALL := wk_884
theorem lk_0_53 : Cond.methodLink RX0 53 yX21_fillJ ∈ WALL := wk_887
theorem cp_0_60 : CPW RX0 60 := ⟨wk_890, wk_732, wk_731, wk_18⟩
theorem lk_0_66 : Cond.methodLink RX0 66 yX1_wanted ∈ WALL := wk_891
theorem lk_0_70 : Cond.methodLink RX0 70 yX0_findNext ∈ WALL := wk_895
theorem lk_0_86 : Cond.methodLink RX0 86 yX0_isToBeHad ∈ WALL := wk_899
theorem lk_0_117 : Cond.methodLink RX0 117 yX1_wantOf ∈ WALL := wk_903
theorem lk_0_121 : Cond.methodLink RX0 121 yX22_bitCount ∈ WALL := wk_904
theorem lk_0_94 : Cond.methodLink RX0 94 yX2_quietPrice ∈ WALL := wk_910
theorem lk_0_77 : Cond.methodLink RX0 77 yX0_takeNext ∈ WALL := wk_911
theorem lk_10_254 : Cond.methodLink RX10 254 yX1_wanted ∈ WALL := wk_928
theorem lk_10_257 : Cond.methodLink RX10 257 yX5_bring ∈ WALL := wk_933
theorem lk_5_26 : Cond.methodLink RX5 26 yX21_fillI ∈ WALL := wk_938
theorem lk_5_37 : Cond.methodLink RX5 37 yX5_unload ∈ WALL := wk_939
theorem lk_5_54 : Cond.methodLink RX5 54 yX20_min ∈ WALL := wk_943
theorem lk_5_60 : Cond.methodLink RX5 60 yX4_buyersAt ∈ WALL := wk_944
theorem lk_5_41 : Cond.methodLink RX5 41 yX5_load ∈ WALL := wk_945
theorem lk_10_270 : Cond.methodLink RX10 270 yX20_max ∈ WALL := wk_953
theorem lk_10_276 : Cond.methodLink RX10 276 yX10_salesIfSwapped ∈ WALL := wk_958
theorem lk_10_279 : Cond.methodLink RX10 279 yX10_trialMarket ∈ WALL := wk_962
theorem lk_10_343 : Cond.methodLink RX10 343 yX4_take ∈ WALL := wk_966
theorem lk_4_51 : Cond.methodLink RX4 51 yX7_take ∈ WALL := wk_970
theorem lk_4_55 : Cond.methodLink RX4 55 yX9_take ∈ WALL := wk_974
theorem lk_4_58 : Cond.methodLink RX4 58 yX1_take ∈ WALL := wk_978
theorem cp_1_34 : CPW RX1 34 := ⟨wk_982, wk_732, wk_731, wk_18⟩
theorem lk_10_283 : Cond.methodLink RX10 283 yX10_trialHour ∈ WALL := wk_983
theorem lk_10_287 : Cond.methodLink RX10 287 yX10_isSlot ∈ WALL := wk_1003
theorem lk_10_294 : Cond.methodLink RX10 294 yX8_isWithin ∈ WALL := wk_1006
theorem lk_10_297 : Cond.methodLink RX10 297 yX10_thefts ∈ WALL := wk_1010
theorem lk_10_301 : Cond.methodLink RX10 301 yX4_buyersAt ∈ WALL := wk_1018
theorem lk_10_305 : Cond.methodLink RX10 305 yX10_salesIfStuck ∈ WALL := wk_1024
theorem lk_10_320 : Cond.methodLink RX10 320 yX10_areRingsRound ∈ WALL := wk_1041
theorem lk_10_323 : Cond.methodLink RX10 323 yX10_areOdds ∈ WALL := wk_1049
theorem lk_10_326 : Cond.methodLink RX10 326 yX10_drawnHour ∈ WALL := wk_1053
theorem lk_10_337 : Cond.methodLink RX10 337 yX4_stuckMinutes ∈ WALL := wk_1074
theorem lk_4_68 : Cond.methodLink RX4 68 yX22_bitCount ∈ WALL := wk_1078
theorem lk_10_340 : Cond.methodLink RX10 340 yX10_rowsThere ∈ WALL := wk_1079
theorem lk_10_347 : Cond.methodLink RX10 347 yX8_begin ∈ WALL := wk_1095
theorem lk_8_26 : Cond.methodLink RX8 26 yX21_fillJ ∈ WALL := wk_1099
theorem lk_10_351 : Cond.methodLink RX10 351 yX8_cut ∈ WALL := wk_1104
theorem lk_10_358 : Cond.methodLink RX10 358 yX8_holds ∈ WALL := wk_1112
theorem cp_10_361 : CPW RX10 361 := ⟨wk_1116, wk_732, wk_731, wk_18⟩
theorem lk_11_131 : Cond.methodLink RX11 131 yX11_isSlot ∈ WALL := wk_1290
theorem lk_11_127 : Cond.methodLink RX11 127 yX11_in ∈ WALL := wk_1294
theorem lk_11_135 : Cond.methodLink RX11 135 yX11_cut ∈ WALL := wk_1301
theorem lk_11_142 : Cond.methodLink RX11 142 yX11_four ∈ WALL := wk_1312
theorem lk_11_272 : Cond.methodLink RX11 272 yX11_clears ∈ WALL := wk_1328
theorem lk_11_275 : Cond.methodLink RX11 275 yX11_begins ∈ WALL := wk_1332
theorem lk_11_184 : Cond.methodLink RX11 184 yX11_next ∈ WALL := wk_1336
theorem lk_11_149 : Cond.methodLink RX11 149 yX11_isByte ∈ WALL := wk_1340
theorem lk_11_278 : Cond.methodLink RX11 278 yX11_isGood ∈ WALL := wk_1349
theorem lk_11_193 : Cond.methodLink RX11 193 yX11_asks ∈ WALL := wk_1354
theorem lk_11_187 : Cond.methodLink RX11 187 yX11_takes ∈ WALL := wk_1358
theorem lk_11_180 : Cond.methodLink RX11 180 yX11_is ∈ WALL := wk_1362
theorem lk_11_190 : Cond.methodLink RX11 190 yX11_fails ∈ WALL := wk_1366
theorem lk_11_210 : Cond.methodLink RX11 210 yX11_number_ ∈ WALL := wk_1371
theorem lk_11_197 : Cond.methodLink RX11 197 yX11_number ∈ WALL := wk_1375
theorem lk_11_288 : Cond.methodLink RX11 288 yX11_line ∈ WALL := wk_1380
theorem lk_11_204 : Cond.methodLink RX11 204 yX11_hasRead ∈ WALL := wk_1389
theorem lk_11_257 : Cond.methodLink RX11 257 yX11_ringLine ∈ WALL := wk_1393
theorem lk_11_260 : Cond.methodLink RX11 260 yX11_stallLine ∈ WALL := wk_1400
theorem lk_11_263 : Cond.methodLink RX11 263 yX11_buyerLine ∈ WALL := wk_1411
theorem lk_11_266 : Cond.methodLink RX11 266 yX11_stuckLine ∈ WALL := wk_1420
theorem lk_11_269 : Cond.methodLink RX11 269 yX11_wantLine ∈ WALL := wk_1426
theorem lk_11_291 : Cond.methodLink RX11 291 yX11_ends ∈ WALL := wk_1431
theorem lk_11_294 : Cond.methodLink RX11 294 yX11_isOver ∈ WALL := wk_1435
theorem lk_11_297 : Cond.methodLink RX11 297 yX11_copyMarket ∈ WALL := wk_1439
theorem lk_11_301 : Cond.methodLink RX11 301 yX11_copyRow ∈ WALL := wk_1443
theorem lk_11_305 : Cond.methodLink RX11 305 yX11_isStall ∈ WALL := wk_1450
theorem lk_11_310 : Cond.methodLink RX11 310 yX11_of ∈ WALL := wk_1455
theorem lk_11_313 : Cond.methodLink RX11 313 yX11_isBuyer ∈ WALL := wk_1463
theorem lk_11_353 : Cond.methodLink RX11 353 yX11_isMinute ∈ WALL := wk_1476
theorem lk_11_356 : Cond.methodLink RX11 356 yX11_asTold ∈ WALL := wk_1480
theorem lk_11_347 : Cond.methodLink RX11 347 yX11_plainly ∈ WALL := wk_1484
theorem lk_11_350 : Cond.methodLink RX11 350 yX11_laysTurns ∈ WALL := wk_1488
theorem lk_11_340 : Cond.methodLink RX11 340 yX11_isDrawn ∈ WALL := wk_1492
theorem lk_11_343 : Cond.methodLink RX11 343 yX11_isStuck ∈ WALL := wk_1501
theorem lk_11_359 : Cond.methodLink RX11 359 yX11_placeOf ∈ WALL := wk_1505
theorem lk_11_362 : Cond.methodLink RX11 362 yX11_isPlace ∈ WALL := wk_1513
theorem lk_11_365 : Cond.methodLink RX11 365 yX11_isRing ∈ WALL := wk_1521
theorem lk_11_400 : Cond.methodLink RX11 400 yX11_plainHour ∈ WALL := wk_1537
theorem lk_11_397 : Cond.methodLink RX11 397 yX11_hour ∈ WALL := wk_1541
theorem lk_11_387 : Cond.methodLink RX11 387 yX11_begin ∈ WALL := wk_1545
theorem lk_11_368 : Cond.methodLink RX11 368 yX11_lackOf ∈ WALL := wk_1549
theorem lk_11_380 : Cond.methodLink RX11 380 yX11_asked ∈ WALL := wk_1553
theorem lk_11_390 : Cond.methodLink RX11 390 yX11_trades ∈ WALL := wk_1557
theorem lk_11_377 : Cond.methodLink RX11 377 yX11_wantOf ∈ WALL := wk_1561
theorem lk_11_383 : Cond.methodLink RX11 383 yX11_would ∈ WALL := wk_1565
theorem lk_11_394 : Cond.methodLink RX11 394 yX11_learns ∈ WALL := wk_1569
theorem lk_11_403 : Cond.methodLink RX11 403 yX11_isMarket ∈ WALL := wk_1593
theorem lk_11_414 : Cond.methodLink RX11 414 yX11_chooses ∈ WALL := wk_1606
theorem lk_11_423 : Cond.methodLink RX11 423 yX11_sends ∈ WALL := wk_1626
theorem lk_11_426 : Cond.methodLink RX11 426 yX11_goesOn ∈ WALL := wk_1630
theorem lk_11_417 : Cond.methodLink RX11 417 yX11_isHost ∈ WALL := wk_1634
theorem lk_11_420 : Cond.methodLink RX11 420 yX11_rides ∈ WALL := wk_1638
theorem lk_11_429 : Cond.methodLink RX11 429 yX11_salesNow ∈ WALL := wk_1650
theorem lk_11_433 : Cond.methodLink RX11 433 yX11_change ∈ WALL := wk_1654
theorem lk_11_440 : Cond.methodLink RX11 440 yX11_harmOf ∈ WALL := wk_1684
theorem lk_11_446 : Cond.methodLink RX11 446 yX11_isAsAtFirst ∈ WALL := wk_1702
theorem lk_11_451 : Cond.methodLink RX11 451 yX11_isDraw ∈ WALL := wk_1710
theorem lk_11_454 : Cond.methodLink RX11 454 yX11_draws ∈ WALL := wk_1715
theorem cw_X0_init : CW yX0_init cX0_init 1 none 0 := ⟨wk_370, wk_9, by decide +kernel, by decide +kernel, by decide +kernel⟩
theorem cw_X0_shop : CW yX0_shop cX0_shop 7 none 4 := ⟨wk_883, wk_9, by decide +kernel, by decide +kernel, by decide +kernel⟩
theorem cv_X0_shop : CWv yX0_shop := ⟨wk_881, wk_882⟩
theorem cw_X0_findNext : CW yX0_findNext cX0_findNext 4 (some .boolean) 0 := ⟨wk_898, wk_9, by decide +kernel, by decide +kernel, by decide +kernel⟩
theorem cv_X0_findNext : CWv yX0_findNext := ⟨wk_897, (wm 30 (by decide +kernel))⟩
theorem cw_X0_isToBeHad : CW yX0_isToBeHad cX0_isToBeHad 5 (some .boolean) 2 := ⟨wk_902, wk_9, by decide +kernel, by decide +kernel, by decide +kernel⟩
theorem cv_X0_isToBeHad : CWv yX0_isToBeHad := ⟨wk_901, (wm 31 (by decide +kernel))⟩
theorem cw_X0_takeNext : CW yX0_takeNext cX0_takeNext 2 none 0 := ⟨wk_914, wk_9, by decide +kernel, by decide +kernel, by decide +kernel⟩
theorem cv_X0_takeNext : CWv yX0_takeNext := ⟨wk_913, (wm 32 (by decide +kernel))⟩
theorem cw_X1_init : CW yX1_init cX1_init 1 none 0 := ⟨wk_159, wk_6, by decide +kernel, by decide +kernel, by decide +kernel⟩
theorem cw_X1_take : CW yX1_take cX1_take 2 none 1 := ⟨wk_981, wk_6, by decide +kernel, by decide +kernel, by decide +kernel⟩
theorem cv_X1_take : CWv yX1_take := ⟨wk_979, wk_980⟩
theorem cw_X1_wantOf : CW yX1_wantOf cX1_wantOf 3 (some .int) 1 := ⟨wk_659, wk_6, by decide +kernel, by decide +kernel, by decide +kernel⟩
theorem cv_X1_wantOf : CWv yX1_wantOf := ⟨wk_657, wk_658⟩
theorem cw_X1_wanted : CW yX1_wanted cX1_wanted 3 (some .int) 0 := ⟨wk_894, wk_6, by decide +kernel, by decide +kernel, by decide +kernel⟩
theorem cv_X1_wanted : CWv yX1_wanted := ⟨wk_892, wk_893⟩
theorem cw_X2_init : CW yX2_init cX2_init 1 none 0 := ⟨wk_284, wk_8, by decide +kernel, by decide +kernel, by decide +kernel⟩
theorem cw_X2_follow : CW yX2_follow cX2_follow 3 none 1 := ⟨wk_715, wk_8, by decide +kernel, by decide +kernel, by decide +kernel⟩
theorem cv_X2_follow : CWv yX2_follow := ⟨wk_713, wk_714⟩
theorem cw_X2_turnRing : CW yX2_turnRing cX2_turnRing 6 none 3 := ⟨wk_718, wk_8, by decide +kernel, by decide +kernel, by decide +kernel⟩
theorem cv_X2_turnRing : Cond.static yX2_turnRing ∈ WALL := wk_717
theorem cw_X2_carry : CW yX2_carry cX2_carry 7 none 2 := ⟨wk_722, wk_8, by decide +kernel, by decide +kernel, by decide +kernel⟩
theorem cv_X2_carry : CWv yX2_carry := ⟨wk_721, (wm 20 (by decide +kernel))⟩
theorem cw_X2_quietPrice : CW yX2_quietPrice cX2_quietPrice 3 (some .int) 2 := ⟨wk_740, wk_8, by decide +kernel, by decide +kernel, by decide +kernel⟩
theorem cv_X2_quietPrice : CWv yX2_quietPrice := ⟨wk_738, wk_739⟩
theorem cw_X3_init : CW yX3_init cX3_init 1 none 0 := ⟨wk_278, wk_7, by decide +kernel, by decide +kernel, by decide +kernel⟩
theorem cw_X3_play : CW yX3_play cX3_play 4 none 1 := ⟨wk_711, wk_7, by decide +kernel, by decide +kernel, by decide +kernel⟩
theorem cv_X3_play : CWv yX3_play := ⟨wk_709, wk_710⟩
theorem cw_X3_begin : CW yX3_begin cX3_begin 3 none 0 := ⟨wk_729, wk_7, by decide +kernel, by decide +kernel, by decide +kernel⟩
theorem cv_X3_begin : CWv yX3_begin := ⟨wk_728, (wm 21 (by decide +kernel))⟩
theorem cw_X3_openMinute : CW yX3_openMinute cX3_openMinute 3 none 1 := ⟨wk_736, wk_7, by decide +kernel, by decide +kernel, by decide +kernel⟩
theorem cv_X3_openMinute : CWv yX3_openMinute := ⟨wk_735, (wm 22 (by decide +kernel))⟩
theorem cw_X3_tradeAt : CW yX3_tradeAt cX3_tradeAt 6 none 2 := ⟨wk_747, wk_7, by decide +kernel, by decide +kernel, by decide +kernel⟩
theorem cv_X3_tradeAt : CWv yX3_tradeAt := ⟨wk_746, (wm 23 (by decide +kernel))⟩
theorem cw_X3_meet : CW yX3_meet cX3_meet 6 none 3 := ⟨wk_755, wk_7, by decide +kernel, by decide +kernel, by decide +kernel⟩
theorem cv_X3_meet : CWv yX3_meet := ⟨wk_754, (wm 24 (by decide +kernel))⟩
theorem cw_X3_wouldBuy : CW yX3_wouldBuy cX3_wouldBuy 5 (some .boolean) 4 := ⟨wk_760, wk_7, by decide +kernel, by decide +kernel, by decide +kernel⟩
theorem cv_X3_wouldBuy : CWv yX3_wouldBuy := ⟨wk_759, (wm 25 (by decide +kernel))⟩
theorem cw_X3_sell : CW yX3_sell cX3_sell 4 none 3 := ⟨wk_764, wk_7, by decide +kernel, by decide +kernel, by decide +kernel⟩
theorem cv_X3_sell : CWv yX3_sell := ⟨wk_763, (wm 26 (by decide +kernel))⟩
theorem cw_X3_closeMinute : CW yX3_closeMinute cX3_closeMinute 3 none 1 := ⟨wk_772, wk_7, by decide +kernel, by decide +kernel, by decide +kernel⟩
theorem cv_X3_closeMinute : CWv yX3_closeMinute := ⟨wk_771, (wm 27 (by decide +kernel))⟩
theorem cw_X3_learn : CW yX3_learn cX3_learn 3 none 2 := ⟨wk_776, wk_7, by decide +kernel, by decide +kernel, by decide +kernel⟩
theorem cv_X3_learn : CWv yX3_learn := ⟨wk_775, (wm 28 (by decide +kernel))⟩
theorem cw_X3_salesAt : CW yX3_salesAt cX3_salesAt 4 (some .int) 1 := ⟨wk_822, wk_7, by decide +kernel, by decide +kernel, by decide +kernel⟩
theorem cv_X3_salesAt : CWv yX3_salesAt := ⟨wk_820, wk_821⟩
theorem cw_X3_takenAt : CW yX3_takenAt cX3_takenAt 4 (some .int) 1 := ⟨wk_826, wk_7, by decide +kernel, by decide +kernel, by decide +kernel⟩
theorem cv_X3_takenAt : CWv yX3_takenAt := ⟨wk_824, wk_825⟩
theorem cw_X3_firstMinuteAt : CW yX3_firstMinuteAt cX3_firstMinuteAt 3 (some .int) 1 := ⟨wk_830, wk_7, by decide +kernel, by decide +kernel, by decide +kernel⟩
theorem cv_X3_firstMinuteAt : CWv yX3_firstMinuteAt := ⟨wk_828, wk_829⟩
theorem cw_X3_salesTo : CW yX3_salesTo cX3_salesTo 4 (some .int) 1 := ⟨wk_838, wk_7, by decide +kernel, by decide +kernel, by decide +kernel⟩
theorem cv_X3_salesTo : CWv yX3_salesTo := ⟨wk_836, wk_837⟩
theorem cw_X3_spentBy : CW yX3_spentBy cX3_spentBy 2 (some .int) 1 := ⟨wk_842, wk_7, by decide +kernel, by decide +kernel, by decide +kernel⟩
theorem cv_X3_spentBy : CWv yX3_spentBy := ⟨wk_840, wk_841⟩
theorem cw_X3_lackOf : CW yX3_lackOf cX3_lackOf 4 (some .int) 1 := ⟨wk_768, wk_7, by decide +kernel, by decide +kernel, by decide +kernel⟩
theorem cv_X3_lackOf : CWv yX3_lackOf := ⟨wk_766, wk_767⟩
theorem cw_X3_paidInAll : CW yX3_paidInAll cX3_paidInAll 3 (some .int) 0 := ⟨wk_863, wk_7, by decide +kernel, by decide +kernel, by decide +kernel⟩
theorem cv_X3_paidInAll : CWv yX3_paidInAll := ⟨wk_861, wk_862⟩
theorem cw_X3_lackInAll : CW yX3_lackInAll cX3_lackInAll 3 (some .int) 0 := ⟨wk_867, wk_7, by decide +kernel, by decide +kernel, by decide +kernel⟩
theorem cv_X3_lackInAll : CWv yX3_lackInAll := ⟨wk_865, wk_866⟩
theorem cw_X3_buyersDone : CW yX3_buyersDone cX3_buyersDone 3 (some .int) 0 := ⟨wk_871, wk_7, by decide +kernel, by decide +kernel, by decide +kernel⟩
theorem cv_X3_buyersDone : CWv yX3_buyersDone := ⟨wk_869, wk_870⟩
theorem cw_X3_busiestMinute : CW yX3_busiestMinute cX3_busiestMinute 6 (some .int) 0 := ⟨wk_875, wk_7, by decide +kernel, by decide +kernel, by decide +kernel⟩
theorem cv_X3_busiestMinute : CWv yX3_busiestMinute := ⟨wk_873, wk_874⟩
theorem cw_X4_init : CW yX4_init cX4_init 2 none 0 := ⟨wk_71, wk_3, by decide +kernel, by decide +kernel, by decide +kernel⟩
theorem cw_X4_clear : CW yX4_clear cX4_clear 1 none 0 := ⟨wk_507, wk_3, by decide +kernel, by decide +kernel, by decide +kernel⟩
theorem cv_X4_clear : CWv yX4_clear := ⟨wk_505, wk_506⟩
theorem cw_X4_take : CW yX4_take cX4_take 3 none 1 := ⟨wk_969, wk_3, by decide +kernel, by decide +kernel, by decide +kernel⟩
theorem cv_X4_take : CWv yX4_take := ⟨wk_967, wk_968⟩
theorem cw_X4_isTold : CW yX4_isTold cX4_isTold 1 (some .boolean) 0 := ⟨wk_855, wk_3, by decide +kernel, by decide +kernel, by decide +kernel⟩
theorem cv_X4_isTold : CWv yX4_isTold := ⟨wk_853, wk_854⟩
theorem cw_X4_hasPlace : CW yX4_hasPlace cX4_hasPlace 2 (some .boolean) 1 := ⟨wk_786, wk_3, by decide +kernel, by decide +kernel, by decide +kernel⟩
theorem cv_X4_hasPlace : CWv yX4_hasPlace := ⟨wk_784, wk_785⟩
theorem cw_X4_hasMinute : CW yX4_hasMinute cX4_hasMinute 2 (some .boolean) 1 := ⟨wk_703, wk_3, by decide +kernel, by decide +kernel, by decide +kernel⟩
theorem cv_X4_hasMinute : CWv yX4_hasMinute := ⟨wk_701, wk_702⟩
theorem cw_X4_hasRing : CW yX4_hasRing cX4_hasRing 2 (some .boolean) 1 := ⟨wk_794, wk_3, by decide +kernel, by decide +kernel, by decide +kernel⟩
theorem cv_X4_hasRing : CWv yX4_hasRing := ⟨wk_792, wk_793⟩
theorem cw_X4_hasStall : CW yX4_hasStall cX4_hasStall 2 (some .boolean) 1 := ⟨wk_683, wk_3, by decide +kernel, by decide +kernel, by decide +kernel⟩
theorem cv_X4_hasStall : CWv yX4_hasStall := ⟨wk_681, wk_682⟩
theorem cw_X4_hasBuyer : CW yX4_hasBuyer cX4_hasBuyer 2 (some .boolean) 1 := ⟨wk_691, wk_3, by decide +kernel, by decide +kernel, by decide +kernel⟩
theorem cv_X4_hasBuyer : CWv yX4_hasBuyer := ⟨wk_689, wk_690⟩
theorem cw_X4_buyersAt : CW yX4_buyersAt cX4_buyersAt 4 (some .int) 1 := ⟨wk_751, wk_3, by decide +kernel, by decide +kernel, by decide +kernel⟩
theorem cv_X4_buyersAt : CWv yX4_buyersAt := ⟨wk_749, wk_750⟩
theorem cw_X4_stuckMinutes : CW yX4_stuckMinutes cX4_stuckMinutes 3 (some .int) 0 := ⟨wk_1077, wk_3, by decide +kernel, by decide +kernel, by decide +kernel⟩
theorem cv_X4_stuckMinutes : CWv yX4_stuckMinutes := ⟨wk_1075, wk_1076⟩
theorem cw_X5_init : CW yX5_init cX5_init 1 none 0 := ⟨wk_414, wk_10, by decide +kernel, by decide +kernel, by decide +kernel⟩
theorem cw_X5_bring : CW yX5_bring cX5_bring 7 none 5 := ⟨wk_936, wk_10, by decide +kernel, by decide +kernel, by decide +kernel⟩
theorem cv_X5_bring : CWv yX5_bring := ⟨wk_934, wk_935⟩
theorem cw_X5_unload : CW yX5_unload cX5_unload 7 none 4 := ⟨wk_942, wk_10, by decide +kernel, by decide +kernel, by decide +kernel⟩
theorem cv_X5_unload : CWv yX5_unload := ⟨wk_941, (wm 33 (by decide +kernel))⟩
theorem cw_X5_load : CW yX5_load cX5_load 6 none 3 := ⟨wk_948, wk_10, by decide +kernel, by decide +kernel, by decide +kernel⟩
theorem cv_X5_load : CWv yX5_load := ⟨wk_947, (wm 34 (by decide +kernel))⟩
theorem cw_X6_init : CW yX6_init cX6_init 1 none 0 := ⟨wk_33, wk_2, by decide +kernel, by decide +kernel, by decide +kernel⟩
theorem cw_X6_add : CW yX6_add cX6_add 3 none 1 := ⟨wk_491, wk_2, by decide +kernel, by decide +kernel, by decide +kernel⟩
theorem cv_X6_add : CWv yX6_add := ⟨wk_489, wk_490⟩
theorem cw_X6_read : CW yX6_read cX6_read 3 (some .boolean) 1 := ⟨wk_503, wk_2, by decide +kernel, by decide +kernel, by decide +kernel⟩
theorem cv_X6_read : CWv yX6_read := ⟨wk_501, wk_502⟩
theorem cw_X6_readLine : CW yX6_readLine cX6_readLine 2 none 1 := ⟨wk_533, wk_2, by decide +kernel, by decide +kernel, by decide +kernel⟩
theorem cv_X6_readLine : CWv yX6_readLine := ⟨wk_532, (wm 3 (by decide +kernel))⟩
theorem cw_X6_readMarket : CW yX6_readMarket cX6_readMarket 2 none 1 := ⟨wk_537, wk_2, by decide +kernel, by decide +kernel, by decide +kernel⟩
theorem cv_X6_readMarket : CWv yX6_readMarket := ⟨wk_536, (wm 4 (by decide +kernel))⟩
theorem cw_X6_readRing : CW yX6_readRing cX6_readRing 3 none 1 := ⟨wk_613, wk_2, by decide +kernel, by decide +kernel, by decide +kernel⟩
theorem cv_X6_readRing : CWv yX6_readRing := ⟨wk_612, (wm 10 (by decide +kernel))⟩
theorem cw_X6_readStall : CW yX6_readStall cX6_readStall 3 none 1 := ⟨wk_625, wk_2, by decide +kernel, by decide +kernel, by decide +kernel⟩
theorem cv_X6_readStall : CWv yX6_readStall := ⟨wk_624, (wm 12 (by decide +kernel))⟩
theorem cw_X6_readKind : CW yX6_readKind cX6_readKind 2 none 1 := ⟨wk_633, wk_2, by decide +kernel, by decide +kernel, by decide +kernel⟩
theorem cv_X6_readKind : CWv yX6_readKind := ⟨wk_632, (wm 13 (by decide +kernel))⟩
theorem cw_X6_readBuyer : CW yX6_readBuyer cX6_readBuyer 3 none 1 := ⟨wk_641, wk_2, by decide +kernel, by decide +kernel, by decide +kernel⟩
theorem cv_X6_readBuyer : CWv yX6_readBuyer := ⟨wk_640, (wm 14 (by decide +kernel))⟩
theorem cw_X6_readHabit : CW yX6_readHabit cX6_readHabit 2 none 1 := ⟨wk_647, wk_2, by decide +kernel, by decide +kernel, by decide +kernel⟩
theorem cv_X6_readHabit : CWv yX6_readHabit := ⟨wk_646, (wm 15 (by decide +kernel))⟩
theorem cw_X6_readWants : CW yX6_readWants cX6_readWants 6 none 1 := ⟨wk_655, wk_2, by decide +kernel, by decide +kernel, by decide +kernel⟩
theorem cv_X6_readWants : CWv yX6_readWants := ⟨wk_654, (wm 16 (by decide +kernel))⟩
theorem cw_X6_readStuck : CW yX6_readStuck cX6_readStuck 6 none 1 := ⟨wk_665, wk_2, by decide +kernel, by decide +kernel, by decide +kernel⟩
theorem cv_X6_readStuck : CWv yX6_readStuck := ⟨wk_664, (wm 17 (by decide +kernel))⟩
theorem cw_X6_refuse : CW yX6_refuse cX6_refuse 2 none 1 := ⟨wk_598, wk_2, by decide +kernel, by decide +kernel, by decide +kernel⟩
theorem cv_X6_refuse : CWv yX6_refuse := ⟨wk_597, (wm 7 (by decide +kernel))⟩
theorem cw_X6_isFull : CW yX6_isFull cX6_isFull 3 (some .boolean) 2 := ⟨wk_617, wk_2, by decide +kernel, by decide +kernel, by decide +kernel⟩
theorem cv_X6_isFull : CWv yX6_isFull := ⟨wk_616, (wm 11 (by decide +kernel))⟩
theorem cw_X6_word : CW yX6_word cX6_word 2 none 1 := ⟨wk_542, wk_2, by decide +kernel, by decide +kernel, by decide +kernel⟩
theorem cv_X6_word : CWv yX6_word := ⟨wk_541, (wm 5 (by decide +kernel))⟩
theorem cw_X6_sign : CW yX6_sign cX6_sign 1 none 0 := ⟨wk_671, wk_2, by decide +kernel, by decide +kernel, by decide +kernel⟩
theorem cv_X6_sign : CWv yX6_sign := ⟨wk_670, (wm 18 (by decide +kernel))⟩
theorem cw_X6_number : CW yX6_number cX6_number 4 (some .int) 2 := ⟨wk_603, wk_2, by decide +kernel, by decide +kernel, by decide +kernel⟩
theorem cv_X6_number : CWv yX6_number := ⟨wk_602, (wm 8 (by decide +kernel))⟩
theorem cw_X6_numberHere : CW yX6_numberHere cX6_numberHere 3 (some .int) 2 := ⟨wk_607, wk_2, by decide +kernel, by decide +kernel, by decide +kernel⟩
theorem cv_X6_numberHere : CWv yX6_numberHere := ⟨wk_606, (wm 9 (by decide +kernel))⟩
theorem cw_X6_isWord : CW yX6_isWord cX6_isWord 3 (some .boolean) 1 := ⟨wk_546, wk_2, by decide +kernel, by decide +kernel, by decide +kernel⟩
theorem cv_X6_isWord : CWv yX6_isWord := ⟨wk_545, (wm 6 (by decide +kernel))⟩
theorem cw_X6_next : CW yX6_next cX6_next 1 none 0 := ⟨wk_511, wk_2, by decide +kernel, by decide +kernel, by decide +kernel⟩
theorem cv_X6_next : CWv yX6_next := ⟨wk_510, (wm 0 (by decide +kernel))⟩
theorem cw_X6_takeWord : CW yX6_takeWord cX6_takeWord 1 none 0 := ⟨wk_518, wk_2, by decide +kernel, by decide +kernel, by decide +kernel⟩
theorem cv_X6_takeWord : CWv yX6_takeWord := ⟨wk_517, (wm 1 (by decide +kernel))⟩
theorem cw_X6_takeNumber : CW yX6_takeNumber cX6_takeNumber 1 none 0 := ⟨wk_525, wk_2, by decide +kernel, by decide +kernel, by decide +kernel⟩
theorem cv_X6_takeNumber : CWv yX6_takeNumber := ⟨wk_524, (wm 2 (by decide +kernel))⟩
theorem cw_X6_isLetter : CW yX6_isLetter cX6_isLetter 1 (some .boolean) 1 := ⟨wk_514, wk_2, by decide +kernel, by decide +kernel, by decide +kernel⟩
theorem cv_X6_isLetter : Cond.static yX6_isLetter ∈ WALL := wk_513
theorem cw_X6_isDigit : CW yX6_isDigit cX6_isDigit 1 (some .boolean) 1 := ⟨wk_521, wk_2, by decide +kernel, by decide +kernel, by decide +kernel⟩
theorem cv_X6_isDigit : Cond.static yX6_isDigit ∈ WALL := wk_520
theorem cw_X7_init : CW yX7_init cX7_init 1 none 0 := ⟨wk_82, wk_4, by decide +kernel, by decide +kernel, by decide +kernel⟩
theorem cw_X7_take : CW yX7_take cX7_take 2 none 1 := ⟨wk_973, wk_4, by decide +kernel, by decide +kernel, by decide +kernel⟩
theorem cv_X7_take : CWv yX7_take := ⟨wk_971, wk_972⟩
theorem cw_X8_init : CW yX8_init cX8_init 1 none 0 := ⟨wk_434, wk_11, by decide +kernel, by decide +kernel, by decide +kernel⟩
theorem cw_X8_begin : CW yX8_begin cX8_begin 3 none 2 := ⟨wk_1098, wk_11, by decide +kernel, by decide +kernel, by decide +kernel⟩
theorem cv_X8_begin : CWv yX8_begin := ⟨wk_1096, wk_1097⟩
theorem cw_X8_cut : CW yX8_cut cX8_cut 3 (some .long) 1 := ⟨wk_1107, wk_11, by decide +kernel, by decide +kernel, by decide +kernel⟩
theorem cv_X8_cut : CWv yX8_cut := ⟨wk_1105, wk_1106⟩
theorem cw_X8_holds : CW yX8_holds cX8_holds 3 (some .boolean) 2 := ⟨wk_1115, wk_11, by decide +kernel, by decide +kernel, by decide +kernel⟩
theorem cv_X8_holds : CWv yX8_holds := ⟨wk_1113, wk_1114⟩
theorem cw_X8_isWithin : CW yX8_isWithin cX8_isWithin 4 (some .boolean) 2 := ⟨wk_1009, wk_11, by decide +kernel, by decide +kernel, by decide +kernel⟩
theorem cv_X8_isWithin : CWv yX8_isWithin := ⟨wk_1007, wk_1008⟩
theorem cw_X9_init : CW yX9_init cX9_init 1 none 0 := ⟨wk_106, wk_5, by decide +kernel, by decide +kernel, by decide +kernel⟩
theorem cw_X9_take : CW yX9_take cX9_take 2 none 1 := ⟨wk_977, wk_5, by decide +kernel, by decide +kernel, by decide +kernel⟩
theorem cv_X9_take : CWv yX9_take := ⟨wk_975, wk_976⟩
theorem cw_X10_init : CW yX10_init cX10_init 2 none 0 := ⟨wk_25, wk_1, by decide +kernel, by decide +kernel, by decide +kernel⟩
theorem cw_X10_feed : CW yX10_feed cX10_feed 6 (some .int) 5 := ⟨wk_487, wk_1, by decide +kernel, by decide +kernel, by decide +kernel⟩
theorem cv_X10_feed : CWv yX10_feed := ⟨wk_485, wk_486⟩
theorem cw_X10_end : CW yX10_end cX10_end 2 (some .int) 1 := ⟨wk_495, wk_1, by decide +kernel, by decide +kernel, by decide +kernel⟩
theorem cv_X10_end : CWv yX10_end := ⟨wk_493, wk_494⟩
theorem cw_X10_market : CW yX10_market cX10_market 2 (some .int) 0 := ⟨wk_499, wk_1, by decide +kernel, by decide +kernel, by decide +kernel⟩
theorem cv_X10_market : CWv yX10_market := ⟨wk_497, wk_498⟩
theorem cw_X10_fault : CW yX10_fault cX10_fault 2 (some .int) 1 := ⟨wk_675, wk_1, by decide +kernel, by decide +kernel, by decide +kernel⟩
theorem cv_X10_fault : CWv yX10_fault := ⟨wk_673, wk_674⟩
theorem cw_X10_stall : CW yX10_stall cX10_stall 4 (some .int) 2 := ⟨wk_679, wk_1, by decide +kernel, by decide +kernel, by decide +kernel⟩
theorem cv_X10_stall : CWv yX10_stall := ⟨wk_677, wk_678⟩
theorem cw_X10_buyer : CW yX10_buyer cX10_buyer 4 (some .int) 2 := ⟨wk_687, wk_1, by decide +kernel, by decide +kernel, by decide +kernel⟩
theorem cv_X10_buyer : CWv yX10_buyer := ⟨wk_685, wk_686⟩
theorem cw_X10_want : CW yX10_want cX10_want 5 (some .int) 3 := ⟨wk_695, wk_1, by decide +kernel, by decide +kernel, by decide +kernel⟩
theorem cv_X10_want : CWv yX10_want := ⟨wk_693, wk_694⟩
theorem cw_X10_at : CW yX10_at cX10_at 3 (some .int) 2 := ⟨wk_699, wk_1, by decide +kernel, by decide +kernel, by decide +kernel⟩
theorem cv_X10_at : CWv yX10_at := ⟨wk_697, wk_698⟩
theorem cw_X10_comes : CW yX10_comes cX10_comes 6 (some .int) 3 := ⟨wk_782, wk_1, by decide +kernel, by decide +kernel, by decide +kernel⟩
theorem cv_X10_comes : CWv yX10_comes := ⟨wk_780, wk_781⟩
theorem cw_X10_there : CW yX10_there cX10_there 6 (some .int) 3 := ⟨wk_790, wk_1, by decide +kernel, by decide +kernel, by decide +kernel⟩
theorem cv_X10_there : CWv yX10_there := ⟨wk_788, wk_789⟩
theorem cw_X10_face : CW yX10_face cX10_face 6 (some .int) 3 := ⟨wk_798, wk_1, by decide +kernel, by decide +kernel, by decide +kernel⟩
theorem cv_X10_face : CWv yX10_face := ⟨wk_796, wk_797⟩
theorem cw_X10_often : CW yX10_often cX10_often 6 (some .int) 2 := ⟨wk_806, wk_1, by decide +kernel, by decide +kernel, by decide +kernel⟩
theorem cv_X10_often : CWv yX10_often := ⟨wk_804, wk_805⟩
theorem cw_X10_asks : CW yX10_asks cX10_asks 3 (some .int) 2 := ⟨wk_810, wk_1, by decide +kernel, by decide +kernel, by decide +kernel⟩
theorem cv_X10_asks : CWv yX10_asks := ⟨wk_808, wk_809⟩
theorem cw_X10_has : CW yX10_has cX10_has 3 (some .int) 2 := ⟨wk_814, wk_1, by decide +kernel, by decide +kernel, by decide +kernel⟩
theorem cv_X10_has : CWv yX10_has := ⟨wk_812, wk_813⟩
theorem cw_X10_sold : CW yX10_sold cX10_sold 3 (some .int) 2 := ⟨wk_818, wk_1, by decide +kernel, by decide +kernel, by decide +kernel⟩
theorem cv_X10_sold : CWv yX10_sold := ⟨wk_816, wk_817⟩
theorem cw_X10_bought : CW yX10_bought cX10_bought 3 (some .int) 2 := ⟨wk_834, wk_1, by decide +kernel, by decide +kernel, by decide +kernel⟩
theorem cv_X10_bought : CWv yX10_bought := ⟨wk_832, wk_833⟩
theorem cw_X10_coins : CW yX10_coins cX10_coins 3 (some .int) 2 := ⟨wk_847, wk_1, by decide +kernel, by decide +kernel, by decide +kernel⟩
theorem cv_X10_coins : CWv yX10_coins := ⟨wk_845, wk_846⟩
theorem cw_X10_sale : CW yX10_sale cX10_sale 4 (some .int) 2 := ⟨wk_851, wk_1, by decide +kernel, by decide +kernel, by decide +kernel⟩
theorem cv_X10_sale : CWv yX10_sale := ⟨wk_849, wk_850⟩
theorem cw_X10_all : CW yX10_all cX10_all 2 (some .int) 1 := ⟨wk_859, wk_1, by decide +kernel, by decide +kernel, by decide +kernel⟩
theorem cv_X10_all : CWv yX10_all := ⟨wk_857, wk_858⟩
theorem cw_X10_best : CW yX10_best cX10_best 2 (some .int) 1 := ⟨wk_879, wk_1, by decide +kernel, by decide +kernel, by decide +kernel⟩
theorem cv_X10_best : CWv yX10_best := ⟨wk_877, wk_878⟩
theorem cw_X10_cost : CW yX10_cost cX10_cost 2 (some .int) 1 := ⟨wk_918, wk_1, by decide +kernel, by decide +kernel, by decide +kernel⟩
theorem cv_X10_cost : CWv yX10_cost := ⟨wk_916, wk_917⟩
theorem cw_X10_choice : CW yX10_choice cX10_choice 3 (some .int) 2 := ⟨wk_922, wk_1, by decide +kernel, by decide +kernel, by decide +kernel⟩
theorem cv_X10_choice : CWv yX10_choice := ⟨wk_920, wk_921⟩
theorem cw_X10_needs : CW yX10_needs cX10_needs 2 (some .int) 1 := ⟨wk_926, wk_1, by decide +kernel, by decide +kernel, by decide +kernel⟩
theorem cv_X10_needs : CWv yX10_needs := ⟨wk_924, wk_925⟩
theorem cw_X10_send : CW yX10_send cX10_send 5 (some .int) 4 := ⟨wk_932, wk_1, by decide +kernel, by decide +kernel, by decide +kernel⟩
theorem cv_X10_send : CWv yX10_send := ⟨wk_930, wk_931⟩
theorem cw_X10_round : CW yX10_round cX10_round 7 (some .int) 2 := ⟨wk_952, wk_1, by decide +kernel, by decide +kernel, by decide +kernel⟩
theorem cv_X10_round : CWv yX10_round := ⟨wk_950, wk_951⟩
theorem cw_X10_swap : CW yX10_swap cX10_swap 7 (some .int) 1 := ⟨wk_957, wk_1, by decide +kernel, by decide +kernel, by decide +kernel⟩
theorem cv_X10_swap : CWv yX10_swap := ⟨wk_955, wk_956⟩
theorem cw_X10_moves : CW yX10_moves cX10_moves 4 (some .int) 2 := ⟨wk_990, wk_1, by decide +kernel, by decide +kernel, by decide +kernel⟩
theorem cv_X10_moves : CWv yX10_moves := ⟨wk_988, wk_989⟩
theorem cw_X10_offer : CW yX10_offer cX10_offer 4 (some .int) 2 := ⟨wk_994, wk_1, by decide +kernel, by decide +kernel, by decide +kernel⟩
theorem cv_X10_offer : CWv yX10_offer := ⟨wk_992, wk_993⟩
theorem cw_X10_wise : CW yX10_wise cX10_wise 7 (some .int) 1 := ⟨wk_998, wk_1, by decide +kernel, by decide +kernel, by decide +kernel⟩
theorem cv_X10_wise : CWv yX10_wise := ⟨wk_996, wk_997⟩
theorem cw_X10_theft : CW yX10_theft cX10_theft 4 (some .int) 2 := ⟨wk_1002, wk_1, by decide +kernel, by decide +kernel, by decide +kernel⟩
theorem cv_X10_theft : CWv yX10_theft := ⟨wk_1000, wk_1001⟩
theorem cw_X10_passed : CW yX10_passed cX10_passed 7 (some .int) 3 := ⟨wk_1017, wk_1, by decide +kernel, by decide +kernel, by decide +kernel⟩
theorem cv_X10_passed : CWv yX10_passed := ⟨wk_1015, wk_1016⟩
theorem cw_X10_harm : CW yX10_harm cX10_harm 3 (some .int) 2 := ⟨wk_1022, wk_1, by decide +kernel, by decide +kernel, by decide +kernel⟩
theorem cv_X10_harm : CWv yX10_harm := ⟨wk_1020, wk_1021⟩
theorem cw_X10_least : CW yX10_least cX10_least 6 (some .int) 1 := ⟨wk_1032, wk_1, by decide +kernel, by decide +kernel, by decide +kernel⟩
theorem cv_X10_least : CWv yX10_least := ⟨wk_1030, wk_1031⟩
theorem cw_X10_turn : CW yX10_turn cX10_turn 4 (some .int) 2 := ⟨wk_1036, wk_1, by decide +kernel, by decide +kernel, by decide +kernel⟩
theorem cv_X10_turn : CWv yX10_turn := ⟨wk_1034, wk_1035⟩
theorem cw_X10_again : CW yX10_again cX10_again 2 (some .int) 0 := ⟨wk_1040, wk_1, by decide +kernel, by decide +kernel, by decide +kernel⟩
theorem cv_X10_again : CWv yX10_again := ⟨wk_1038, wk_1039⟩
theorem cw_X10_drawn : CW yX10_drawn cX10_drawn 3 (some .int) 2 := ⟨wk_1048, wk_1, by decide +kernel, by decide +kernel, by decide +kernel⟩
theorem cv_X10_drawn : CWv yX10_drawn := ⟨wk_1046, wk_1047⟩
theorem cw_X10_chance : CW yX10_chance cX10_chance 7 (some .int) 4 := ⟨wk_1065, wk_1, by decide +kernel, by decide +kernel, by decide +kernel⟩
theorem cv_X10_chance : CWv yX10_chance := ⟨wk_1063, wk_1064⟩
theorem cw_X10_judge : CW yX10_judge cX10_judge 5 (some .int) 1 := ⟨wk_1069, wk_1, by decide +kernel, by decide +kernel, by decide +kernel⟩
theorem cv_X10_judge : CWv yX10_judge := ⟨wk_1067, wk_1068⟩
theorem cw_X10_count : CW yX10_count cX10_count 2 (some .int) 1 := ⟨wk_1073, wk_1, by decide +kernel, by decide +kernel, by decide +kernel⟩
theorem cv_X10_count : CWv yX10_count := ⟨wk_1071, wk_1072⟩
theorem cw_X10_keep : CW yX10_keep cX10_keep 2 (some .int) 1 := ⟨wk_1086, wk_1, by decide +kernel, by decide +kernel, by decide +kernel⟩
theorem cv_X10_keep : CWv yX10_keep := ⟨wk_1084, wk_1085⟩
theorem cw_X10_back : CW yX10_back cX10_back 2 (some .int) 1 := ⟨wk_1090, wk_1, by decide +kernel, by decide +kernel, by decide +kernel⟩
theorem cv_X10_back : CWv yX10_back := ⟨wk_1088, wk_1089⟩
theorem cw_X10_row : CW yX10_row cX10_row 4 (some .int) 3 := ⟨wk_1094, wk_1, by decide +kernel, by decide +kernel, by decide +kernel⟩
theorem cv_X10_row : CWv yX10_row := ⟨wk_1092, wk_1093⟩
theorem cw_X10_write : CW yX10_write cX10_write 6 (some .int) 3 := ⟨wk_1103, wk_1, by decide +kernel, by decide +kernel, by decide +kernel⟩
theorem cv_X10_write : CWv yX10_write := ⟨wk_1101, wk_1102⟩
theorem cw_X10_paste : CW yX10_paste cX10_paste 8 (some .int) 5 := ⟨wk_1111, wk_1, by decide +kernel, by decide +kernel, by decide +kernel⟩
theorem cv_X10_paste : CWv yX10_paste := ⟨wk_1109, wk_1110⟩
theorem cw_X10_isSlot : CW yX10_isSlot cX10_isSlot 1 (some .boolean) 1 := ⟨wk_1005, wk_1, by decide +kernel, by decide +kernel, by decide +kernel⟩
theorem cv_X10_isSlot : Cond.static yX10_isSlot ∈ WALL := wk_1004
theorem cw_X10_areOdds : CW yX10_areOdds cX10_areOdds 2 (some .boolean) 2 := ⟨wk_1051, wk_1, by decide +kernel, by decide +kernel, by decide +kernel⟩
theorem cv_X10_areOdds : Cond.static yX10_areOdds ∈ WALL := wk_1050
theorem cw_X10_areTwoStalls : CW yX10_areTwoStalls cX10_areTwoStalls 3 (some .boolean) 2 := ⟨wk_802, wk_1, by decide +kernel, by decide +kernel, by decide +kernel⟩
theorem cv_X10_areTwoStalls : CWv yX10_areTwoStalls := ⟨wk_801, (wm 29 (by decide +kernel))⟩
theorem cw_X10_rowsThere : CW yX10_rowsThere cX10_rowsThere 6 (some .int) 0 := ⟨wk_1082, wk_1, by decide +kernel, by decide +kernel, by decide +kernel⟩
theorem cv_X10_rowsThere : CWv yX10_rowsThere := ⟨wk_1081, (wm 42 (by decide +kernel))⟩
theorem cw_X10_areRingsRound : CW yX10_areRingsRound cX10_areRingsRound 4 (some .boolean) 1 := ⟨wk_1044, wk_1, by decide +kernel, by decide +kernel, by decide +kernel⟩
theorem cv_X10_areRingsRound : CWv yX10_areRingsRound := ⟨wk_1043, (wm 40 (by decide +kernel))⟩
theorem cw_X10_toldHour : CW yX10_toldHour cX10_toldHour 1 (some (.object "TurningMarket$Hour")) 0 := ⟨wk_707, wk_1, by decide +kernel, by decide +kernel, by decide +kernel⟩
theorem cv_X10_toldHour : CWv yX10_toldHour := ⟨wk_706, (wm 19 (by decide +kernel))⟩
theorem cw_X10_trialMarket : CW yX10_trialMarket cX10_trialMarket 1 (some (.object "TurningMarket$Market")) 0 := ⟨wk_965, wk_1, by decide +kernel, by decide +kernel, by decide +kernel⟩
theorem cv_X10_trialMarket : CWv yX10_trialMarket := ⟨wk_964, (wm 36 (by decide +kernel))⟩
theorem cw_X10_trialHour : CW yX10_trialHour cX10_trialHour 2 (some (.object "TurningMarket$Hour")) 1 := ⟨wk_986, wk_1, by decide +kernel, by decide +kernel, by decide +kernel⟩
theorem cv_X10_trialHour : CWv yX10_trialHour := ⟨wk_985, (wm 37 (by decide +kernel))⟩
theorem cw_X10_salesIfSwapped : CW yX10_salesIfSwapped cX10_salesIfSwapped 4 (some .int) 2 := ⟨wk_961, wk_1, by decide +kernel, by decide +kernel, by decide +kernel⟩
theorem cv_X10_salesIfSwapped : CWv yX10_salesIfSwapped := ⟨wk_960, (wm 35 (by decide +kernel))⟩
theorem cw_X10_salesIfStuck : CW yX10_salesIfStuck cX10_salesIfStuck 4 (some .int) 2 := ⟨wk_1027, wk_1, by decide +kernel, by decide +kernel, by decide +kernel⟩
theorem cv_X10_salesIfStuck : CWv yX10_salesIfStuck := ⟨wk_1026, (wm 39 (by decide +kernel))⟩
theorem cw_X10_drawnHour : CW yX10_drawnHour cX10_drawnHour 8 (some (.object "TurningMarket$Hour")) 2 := ⟨wk_1056, wk_1, by decide +kernel, by decide +kernel, by decide +kernel⟩
theorem cv_X10_drawnHour : CWv yX10_drawnHour := ⟨wk_1055, (wm 41 (by decide +kernel))⟩
theorem cw_X10_thefts : CW yX10_thefts cX10_thefts 9 (some .int) 2 := ⟨wk_1013, wk_1, by decide +kernel, by decide +kernel, by decide +kernel⟩
theorem cv_X10_thefts : CWv yX10_thefts := ⟨wk_1012, (wm 38 (by decide +kernel))⟩
theorem cw_X11_init : CW yX11_init cX11_init 2 none 0 := ⟨wk_1121, wk_12, by decide +kernel, by decide +kernel, by decide +kernel⟩
theorem cw_X11_in : CW yX11_in cX11_in 6 (some .boolean) 3 := ⟨wk_1296, wk_12, by decide +kernel, by decide +kernel, by decide +kernel⟩
theorem cv_X11_in : Cond.static yX11_in ∈ WALL := wk_1295
theorem cw_X11_isSlot : CW yX11_isSlot cX11_isSlot 1 (some .boolean) 1 := ⟨wk_1292, wk_12, by decide +kernel, by decide +kernel, by decide +kernel⟩
theorem cv_X11_isSlot : Cond.static yX11_isSlot ∈ WALL := wk_1291
theorem cw_X11_row : CW yX11_row cX11_row 5 (some .int) 3 := ⟨wk_1289, wk_12, by decide +kernel, by decide +kernel, by decide +kernel⟩
theorem cv_X11_row : CWv yX11_row := ⟨wk_1287, wk_1288⟩
theorem cw_X11_cut : CW yX11_cut cX11_cut 3 (some .long) 2 := ⟨wk_1303, wk_12, by decide +kernel, by decide +kernel, by decide +kernel⟩
theorem cv_X11_cut : Cond.static yX11_cut ∈ WALL := wk_1302
theorem cw_X11_write : CW yX11_write cX11_write 5 (some .int) 3 := ⟨wk_1300, wk_12, by decide +kernel, by decide +kernel, by decide +kernel⟩
theorem cv_X11_write : CWv yX11_write := ⟨wk_1298, wk_1299⟩
theorem cw_X11_paste : CW yX11_paste cX11_paste 7 (some .int) 5 := ⟨wk_1307, wk_12, by decide +kernel, by decide +kernel, by decide +kernel⟩
theorem cv_X11_paste : CWv yX11_paste := ⟨wk_1305, wk_1306⟩
theorem cw_X11_feed : CW yX11_feed cX11_feed 6 (some .int) 5 := ⟨wk_1311, wk_12, by decide +kernel, by decide +kernel, by decide +kernel⟩
theorem cv_X11_feed : CWv yX11_feed := ⟨wk_1309, wk_1310⟩
theorem cw_X11_four : CW yX11_four cX11_four 3 none 1 := ⟨wk_1315, wk_12, by decide +kernel, by decide +kernel, by decide +kernel⟩
theorem cv_X11_four : CWv yX11_four := ⟨wk_1314, (wm 43 (by decide +kernel))⟩
theorem cw_X11_end : CW yX11_end cX11_end 2 (some .int) 1 := ⟨wk_1319, wk_12, by decide +kernel, by decide +kernel, by decide +kernel⟩
theorem cv_X11_end : CWv yX11_end := ⟨wk_1317, wk_1318⟩
theorem cw_X11_isByte : CW yX11_isByte cX11_isByte 4 (some .boolean) 3 := ⟨wk_1343, wk_12, by decide +kernel, by decide +kernel, by decide +kernel⟩
theorem cv_X11_isByte : CWv yX11_isByte := ⟨wk_1342, (wm 47 (by decide +kernel))⟩
theorem cw_X11_next : CW yX11_next cX11_next 2 none 0 := ⟨wk_1339, wk_12, by decide +kernel, by decide +kernel, by decide +kernel⟩
theorem cv_X11_next : CWv yX11_next := ⟨wk_1338, (wm 46 (by decide +kernel))⟩
theorem cw_X11_isGood : CW yX11_isGood cX11_isGood 1 (some .boolean) 0 := ⟨wk_1352, wk_12, by decide +kernel, by decide +kernel, by decide +kernel⟩
theorem cv_X11_isGood : CWv yX11_isGood := ⟨wk_1351, (wm 48 (by decide +kernel))⟩
theorem cw_X11_fails : CW yX11_fails cX11_fails 2 none 1 := ⟨wk_1369, wk_12, by decide +kernel, by decide +kernel, by decide +kernel⟩
theorem cv_X11_fails : CWv yX11_fails := ⟨wk_1368, (wm 52 (by decide +kernel))⟩
theorem cw_X11_is : CW yX11_is cX11_is 3 (some .boolean) 1 := ⟨wk_1365, wk_12, by decide +kernel, by decide +kernel, by decide +kernel⟩
theorem cv_X11_is : CWv yX11_is := ⟨wk_1364, (wm 51 (by decide +kernel))⟩
theorem cw_X11_takes : CW yX11_takes cX11_takes 3 (some .boolean) 1 := ⟨wk_1361, wk_12, by decide +kernel, by decide +kernel, by decide +kernel⟩
theorem cv_X11_takes : CWv yX11_takes := ⟨wk_1360, (wm 50 (by decide +kernel))⟩
theorem cw_X11_asks : CW yX11_asks cX11_asks 3 none 1 := ⟨wk_1357, wk_12, by decide +kernel, by decide +kernel, by decide +kernel⟩
theorem cv_X11_asks : CWv yX11_asks := ⟨wk_1356, (wm 49 (by decide +kernel))⟩
theorem cw_X11_number : CW yX11_number cX11_number 4 (some .int) 2 := ⟨wk_1378, wk_12, by decide +kernel, by decide +kernel, by decide +kernel⟩
theorem cv_X11_number : CWv yX11_number := ⟨wk_1377, (wm 54 (by decide +kernel))⟩
theorem cw_X11_number_ : CW yX11_number_ cX11_number_ 5 (some .int) 3 := ⟨wk_1374, wk_12, by decide +kernel, by decide +kernel, by decide +kernel⟩
theorem cv_X11_number_ : CWv yX11_number_ := ⟨wk_1373, (wm 53 (by decide +kernel))⟩
theorem cw_X11_ends : CW yX11_ends cX11_ends 1 none 0 := ⟨wk_1434, wk_12, by decide +kernel, by decide +kernel, by decide +kernel⟩
theorem cv_X11_ends : CWv yX11_ends := ⟨wk_1433, (wm 62 (by decide +kernel))⟩
theorem cw_X11_begins : CW yX11_begins cX11_begins 1 none 0 := ⟨wk_1335, wk_12, by decide +kernel, by decide +kernel, by decide +kernel⟩
theorem cv_X11_begins : CWv yX11_begins := ⟨wk_1334, (wm 45 (by decide +kernel))⟩
theorem cw_X11_isOver : CW yX11_isOver cX11_isOver 1 none 0 := ⟨wk_1438, wk_12, by decide +kernel, by decide +kernel, by decide +kernel⟩
theorem cv_X11_isOver : CWv yX11_isOver := ⟨wk_1437, (wm 63 (by decide +kernel))⟩
theorem cw_X11_fault : CW yX11_fault cX11_fault 2 (some .int) 1 := ⟨wk_1323, wk_12, by decide +kernel, by decide +kernel, by decide +kernel⟩
theorem cv_X11_fault : CWv yX11_fault := ⟨wk_1321, wk_1322⟩
theorem cw_X11_hasRead : CW yX11_hasRead cX11_hasRead 2 (some .int) 1 := ⟨wk_1392, wk_12, by decide +kernel, by decide +kernel, by decide +kernel⟩
theorem cv_X11_hasRead : CWv yX11_hasRead := ⟨wk_1391, (wm 56 (by decide +kernel))⟩
theorem cw_X11_ringLine : CW yX11_ringLine cX11_ringLine 3 none 0 := ⟨wk_1396, wk_12, by decide +kernel, by decide +kernel, by decide +kernel⟩
theorem cv_X11_ringLine : CWv yX11_ringLine := ⟨wk_1395, (wm 57 (by decide +kernel))⟩
theorem cw_X11_stallLine : CW yX11_stallLine cX11_stallLine 3 none 0 := ⟨wk_1403, wk_12, by decide +kernel, by decide +kernel, by decide +kernel⟩
theorem cv_X11_stallLine : CWv yX11_stallLine := ⟨wk_1402, (wm 58 (by decide +kernel))⟩
theorem cw_X11_buyerLine : CW yX11_buyerLine cX11_buyerLine 3 none 0 := ⟨wk_1414, wk_12, by decide +kernel, by decide +kernel, by decide +kernel⟩
theorem cv_X11_buyerLine : CWv yX11_buyerLine := ⟨wk_1413, (wm 59 (by decide +kernel))⟩
theorem cw_X11_wantLine : CW yX11_wantLine cX11_wantLine 5 none 0 := ⟨wk_1429, wk_12, by decide +kernel, by decide +kernel, by decide +kernel⟩
theorem cv_X11_wantLine : CWv yX11_wantLine := ⟨wk_1428, (wm 61 (by decide +kernel))⟩
theorem cw_X11_stuckLine : CW yX11_stuckLine cX11_stuckLine 2 none 0 := ⟨wk_1423, wk_12, by decide +kernel, by decide +kernel, by decide +kernel⟩
theorem cv_X11_stuckLine : CWv yX11_stuckLine := ⟨wk_1422, (wm 60 (by decide +kernel))⟩
theorem cw_X11_line : CW yX11_line cX11_line 2 none 0 := ⟨wk_1383, wk_12, by decide +kernel, by decide +kernel, by decide +kernel⟩
theorem cv_X11_line : CWv yX11_line := ⟨wk_1382, (wm 55 (by decide +kernel))⟩
theorem cw_X11_clears : CW yX11_clears cX11_clears 2 none 0 := ⟨wk_1331, wk_12, by decide +kernel, by decide +kernel, by decide +kernel⟩
theorem cv_X11_clears : CWv yX11_clears := ⟨wk_1330, (wm 44 (by decide +kernel))⟩
theorem cw_X11_market : CW yX11_market cX11_market 1 (some .int) 0 := ⟨wk_1327, wk_12, by decide +kernel, by decide +kernel, by decide +kernel⟩
theorem cv_X11_market : CWv yX11_market := ⟨wk_1325, wk_1326⟩
theorem cw_X11_copyRow : CW yX11_copyRow cX11_copyRow 5 none 4 := ⟨wk_1445, wk_12, by decide +kernel, by decide +kernel, by decide +kernel⟩
theorem cv_X11_copyRow : Cond.static yX11_copyRow ∈ WALL := wk_1444
theorem cw_X11_copyMarket : CW yX11_copyMarket cX11_copyMarket 3 none 2 := ⟨wk_1442, wk_12, by decide +kernel, by decide +kernel, by decide +kernel⟩
theorem cv_X11_copyMarket : CWv yX11_copyMarket := ⟨wk_1441, (wm 64 (by decide +kernel))⟩
theorem cw_X11_isMarket : CW yX11_isMarket cX11_isMarket 1 (some .boolean) 0 := ⟨wk_1596, wk_12, by decide +kernel, by decide +kernel, by decide +kernel⟩
theorem cv_X11_isMarket : CWv yX11_isMarket := ⟨wk_1595, (wm 86 (by decide +kernel))⟩
theorem cw_X11_isPlace : CW yX11_isPlace cX11_isPlace 2 (some .boolean) 1 := ⟨wk_1516, wk_12, by decide +kernel, by decide +kernel, by decide +kernel⟩
theorem cv_X11_isPlace : CWv yX11_isPlace := ⟨wk_1515, (wm 75 (by decide +kernel))⟩
theorem cw_X11_isMinute : CW yX11_isMinute cX11_isMinute 2 (some .boolean) 1 := ⟨wk_1479, wk_12, by decide +kernel, by decide +kernel, by decide +kernel⟩
theorem cv_X11_isMinute : CWv yX11_isMinute := ⟨wk_1478, (wm 68 (by decide +kernel))⟩
theorem cw_X11_isRing : CW yX11_isRing cX11_isRing 2 (some .boolean) 1 := ⟨wk_1524, wk_12, by decide +kernel, by decide +kernel, by decide +kernel⟩
theorem cv_X11_isRing : CWv yX11_isRing := ⟨wk_1523, (wm 76 (by decide +kernel))⟩
theorem cw_X11_isStall : CW yX11_isStall cX11_isStall 2 (some .boolean) 1 := ⟨wk_1453, wk_12, by decide +kernel, by decide +kernel, by decide +kernel⟩
theorem cv_X11_isStall : CWv yX11_isStall := ⟨wk_1452, (wm 65 (by decide +kernel))⟩
theorem cw_X11_isBuyer : CW yX11_isBuyer cX11_isBuyer 2 (some .boolean) 1 := ⟨wk_1466, wk_12, by decide +kernel, by decide +kernel, by decide +kernel⟩
theorem cv_X11_isBuyer : CWv yX11_isBuyer := ⟨wk_1465, (wm 67 (by decide +kernel))⟩
theorem cw_X11_of : CW yX11_of cX11_of 3 (some .int) 2 := ⟨wk_1458, wk_12, by decide +kernel, by decide +kernel, by decide +kernel⟩
theorem cv_X11_of : CWv yX11_of := ⟨wk_1457, (wm 66 (by decide +kernel))⟩
theorem cw_X11_stall : CW yX11_stall cX11_stall 3 (some .int) 2 := ⟨wk_1449, wk_12, by decide +kernel, by decide +kernel, by decide +kernel⟩
theorem cv_X11_stall : CWv yX11_stall := ⟨wk_1447, wk_1448⟩
theorem cw_X11_buyer : CW yX11_buyer cX11_buyer 3 (some .int) 2 := ⟨wk_1462, wk_12, by decide +kernel, by decide +kernel, by decide +kernel⟩
theorem cv_X11_buyer : CWv yX11_buyer := ⟨wk_1460, wk_1461⟩
theorem cw_X11_want : CW yX11_want cX11_want 4 (some .int) 3 := ⟨wk_1470, wk_12, by decide +kernel, by decide +kernel, by decide +kernel⟩
theorem cv_X11_want : CWv yX11_want := ⟨wk_1468, wk_1469⟩
theorem cw_X11_isStuck : CW yX11_isStuck cX11_isStuck 4 (some .boolean) 2 := ⟨wk_1504, wk_12, by decide +kernel, by decide +kernel, by decide +kernel⟩
theorem cv_X11_isStuck : CWv yX11_isStuck := ⟨wk_1503, (wm 73 (by decide +kernel))⟩
theorem cw_X11_isDrawn : CW yX11_isDrawn cX11_isDrawn 1 (some .boolean) 0 := ⟨wk_1495, wk_12, by decide +kernel, by decide +kernel, by decide +kernel⟩
theorem cv_X11_isDrawn : CWv yX11_isDrawn := ⟨wk_1494, (wm 72 (by decide +kernel))⟩
theorem cw_X11_laysTurns : CW yX11_laysTurns cX11_laysTurns 5 none 0 := ⟨wk_1491, wk_12, by decide +kernel, by decide +kernel, by decide +kernel⟩
theorem cv_X11_laysTurns : CWv yX11_laysTurns := ⟨wk_1490, (wm 71 (by decide +kernel))⟩
theorem cw_X11_plainly : CW yX11_plainly cX11_plainly 1 none 0 := ⟨wk_1487, wk_12, by decide +kernel, by decide +kernel, by decide +kernel⟩
theorem cv_X11_plainly : CWv yX11_plainly := ⟨wk_1486, (wm 70 (by decide +kernel))⟩
theorem cw_X11_asTold : CW yX11_asTold cX11_asTold 1 none 0 := ⟨wk_1483, wk_12, by decide +kernel, by decide +kernel, by decide +kernel⟩
theorem cv_X11_asTold : CWv yX11_asTold := ⟨wk_1482, (wm 69 (by decide +kernel))⟩
theorem cw_X11_placeOf : CW yX11_placeOf cX11_placeOf 5 (some .int) 2 := ⟨wk_1508, wk_12, by decide +kernel, by decide +kernel, by decide +kernel⟩
theorem cv_X11_placeOf : CWv yX11_placeOf := ⟨wk_1507, (wm 74 (by decide +kernel))⟩
theorem cw_X11_at : CW yX11_at cX11_at 3 (some .int) 2 := ⟨wk_1475, wk_12, by decide +kernel, by decide +kernel, by decide +kernel⟩
theorem cv_X11_at : CWv yX11_at := ⟨wk_1473, wk_1474⟩
theorem cw_X11_comes : CW yX11_comes cX11_comes 5 (some .int) 3 := ⟨wk_1512, wk_12, by decide +kernel, by decide +kernel, by decide +kernel⟩
theorem cv_X11_comes : CWv yX11_comes := ⟨wk_1510, wk_1511⟩
theorem cw_X11_there : CW yX11_there cX11_there 5 (some .int) 3 := ⟨wk_1520, wk_12, by decide +kernel, by decide +kernel, by decide +kernel⟩
theorem cv_X11_there : CWv yX11_there := ⟨wk_1518, wk_1519⟩
theorem cw_X11_face : CW yX11_face cX11_face 5 (some .int) 3 := ⟨wk_1528, wk_12, by decide +kernel, by decide +kernel, by decide +kernel⟩
theorem cv_X11_face : CWv yX11_face := ⟨wk_1526, wk_1527⟩
theorem cw_X11_often : CW yX11_often cX11_often 5 (some .int) 2 := ⟨wk_1532, wk_12, by decide +kernel, by decide +kernel, by decide +kernel⟩
theorem cv_X11_often : CWv yX11_often := ⟨wk_1530, wk_1531⟩
theorem cw_X11_wantOf : CW yX11_wantOf cX11_wantOf 4 (some .int) 2 := ⟨wk_1564, wk_12, by decide +kernel, by decide +kernel, by decide +kernel⟩
theorem cv_X11_wantOf : CWv yX11_wantOf := ⟨wk_1563, (wm 83 (by decide +kernel))⟩
theorem cw_X11_lackOf : CW yX11_lackOf cX11_lackOf 2 (some .int) 1 := ⟨wk_1552, wk_12, by decide +kernel, by decide +kernel, by decide +kernel⟩
theorem cv_X11_lackOf : CWv yX11_lackOf := ⟨wk_1551, (wm 80 (by decide +kernel))⟩
theorem cw_X11_begin : CW yX11_begin cX11_begin 3 none 0 := ⟨wk_1548, wk_12, by decide +kernel, by decide +kernel, by decide +kernel⟩
theorem cv_X11_begin : CWv yX11_begin := ⟨wk_1547, (wm 79 (by decide +kernel))⟩
theorem cw_X11_asked : CW yX11_asked cX11_asked 4 (some .int) 2 := ⟨wk_1556, wk_12, by decide +kernel, by decide +kernel, by decide +kernel⟩
theorem cv_X11_asked : CWv yX11_asked := ⟨wk_1555, (wm 81 (by decide +kernel))⟩
theorem cw_X11_would : CW yX11_would cX11_would 6 (some .boolean) 4 := ⟨wk_1568, wk_12, by decide +kernel, by decide +kernel, by decide +kernel⟩
theorem cv_X11_would : CWv yX11_would := ⟨wk_1567, (wm 84 (by decide +kernel))⟩
theorem cw_X11_trades : CW yX11_trades cX11_trades 6 none 3 := ⟨wk_1560, wk_12, by decide +kernel, by decide +kernel, by decide +kernel⟩
theorem cv_X11_trades : CWv yX11_trades := ⟨wk_1559, (wm 82 (by decide +kernel))⟩
theorem cw_X11_learns : CW yX11_learns cX11_learns 2 none 0 := ⟨wk_1572, wk_12, by decide +kernel, by decide +kernel, by decide +kernel⟩
theorem cv_X11_learns : CWv yX11_learns := ⟨wk_1571, (wm 85 (by decide +kernel))⟩
theorem cw_X11_hour : CW yX11_hour cX11_hour 5 none 0 := ⟨wk_1544, wk_12, by decide +kernel, by decide +kernel, by decide +kernel⟩
theorem cv_X11_hour : CWv yX11_hour := ⟨wk_1543, (wm 78 (by decide +kernel))⟩
theorem cw_X11_plainHour : CW yX11_plainHour cX11_plainHour 1 none 0 := ⟨wk_1540, wk_12, by decide +kernel, by decide +kernel, by decide +kernel⟩
theorem cv_X11_plainHour : CWv yX11_plainHour := ⟨wk_1539, (wm 77 (by decide +kernel))⟩
theorem cw_X11_asks_ : CW yX11_asks_ cX11_asks_ 3 (some .int) 2 := ⟨wk_1536, wk_12, by decide +kernel, by decide +kernel, by decide +kernel⟩
theorem cv_X11_asks_ : CWv yX11_asks_ := ⟨wk_1534, wk_1535⟩
theorem cw_X11_has : CW yX11_has cX11_has 3 (some .int) 2 := ⟨wk_1576, wk_12, by decide +kernel, by decide +kernel, by decide +kernel⟩
theorem cv_X11_has : CWv yX11_has := ⟨wk_1574, wk_1575⟩
theorem cw_X11_sold : CW yX11_sold cX11_sold 3 (some .int) 2 := ⟨wk_1580, wk_12, by decide +kernel, by decide +kernel, by decide +kernel⟩
theorem cv_X11_sold : CWv yX11_sold := ⟨wk_1578, wk_1579⟩
theorem cw_X11_bought : CW yX11_bought cX11_bought 3 (some .int) 2 := ⟨wk_1584, wk_12, by decide +kernel, by decide +kernel, by decide +kernel⟩
theorem cv_X11_bought : CWv yX11_bought := ⟨wk_1582, wk_1583⟩
theorem cw_X11_coins : CW yX11_coins cX11_coins 3 (some .int) 2 := ⟨wk_1588, wk_12, by decide +kernel, by decide +kernel, by decide +kernel⟩
theorem cv_X11_coins : CWv yX11_coins := ⟨wk_1586, wk_1587⟩
theorem cw_X11_sale : CW yX11_sale cX11_sale 3 (some .int) 2 := ⟨wk_1592, wk_12, by decide +kernel, by decide +kernel, by decide +kernel⟩
theorem cv_X11_sale : CWv yX11_sale := ⟨wk_1590, wk_1591⟩
theorem cw_X11_all : CW yX11_all cX11_all 8 (some .int) 1 := ⟨wk_1600, wk_12, by decide +kernel, by decide +kernel, by decide +kernel⟩
theorem cv_X11_all : CWv yX11_all := ⟨wk_1598, wk_1599⟩
theorem cw_X11_chooses : CW yX11_chooses cX11_chooses 10 none 2 := ⟨wk_1609, wk_12, by decide +kernel, by decide +kernel, by decide +kernel⟩
theorem cv_X11_chooses : CWv yX11_chooses := ⟨wk_1608, (wm 87 (by decide +kernel))⟩
theorem cw_X11_best : CW yX11_best cX11_best 2 (some .int) 1 := ⟨wk_1605, wk_12, by decide +kernel, by decide +kernel, by decide +kernel⟩
theorem cv_X11_best : CWv yX11_best := ⟨wk_1603, wk_1604⟩
theorem cw_X11_cost : CW yX11_cost cX11_cost 2 (some .int) 1 := ⟨wk_1613, wk_12, by decide +kernel, by decide +kernel, by decide +kernel⟩
theorem cv_X11_cost : CWv yX11_cost := ⟨wk_1611, wk_1612⟩
theorem cw_X11_choice : CW yX11_choice cX11_choice 3 (some .int) 2 := ⟨wk_1617, wk_12, by decide +kernel, by decide +kernel, by decide +kernel⟩
theorem cv_X11_choice : CWv yX11_choice := ⟨wk_1615, wk_1616⟩
theorem cw_X11_needs : CW yX11_needs cX11_needs 2 (some .int) 1 := ⟨wk_1621, wk_12, by decide +kernel, by decide +kernel, by decide +kernel⟩
theorem cv_X11_needs : CWv yX11_needs := ⟨wk_1619, wk_1620⟩
theorem cw_X11_isHost : CW yX11_isHost cX11_isHost 3 (some .boolean) 1 := ⟨wk_1637, wk_12, by decide +kernel, by decide +kernel, by decide +kernel⟩
theorem cv_X11_isHost : CWv yX11_isHost := ⟨wk_1636, (wm 90 (by decide +kernel))⟩
theorem cw_X11_goesOn : CW yX11_goesOn cX11_goesOn 5 none 1 := ⟨wk_1633, wk_12, by decide +kernel, by decide +kernel, by decide +kernel⟩
theorem cv_X11_goesOn : CWv yX11_goesOn := ⟨wk_1632, (wm 89 (by decide +kernel))⟩
theorem cw_X11_rides : CW yX11_rides cX11_rides 5 none 2 := ⟨wk_1641, wk_12, by decide +kernel, by decide +kernel, by decide +kernel⟩
theorem cv_X11_rides : CWv yX11_rides := ⟨wk_1640, (wm 91 (by decide +kernel))⟩
theorem cw_X11_sends : CW yX11_sends cX11_sends 4 none 2 := ⟨wk_1629, wk_12, by decide +kernel, by decide +kernel, by decide +kernel⟩
theorem cv_X11_sends : CWv yX11_sends := ⟨wk_1628, (wm 88 (by decide +kernel))⟩
theorem cw_X11_send : CW yX11_send cX11_send 8 (some .int) 4 := ⟨wk_1625, wk_12, by decide +kernel, by decide +kernel, by decide +kernel⟩
theorem cv_X11_send : CWv yX11_send := ⟨wk_1623, wk_1624⟩
theorem cw_X11_round : CW yX11_round cX11_round 5 (some .int) 2 := ⟨wk_1645, wk_12, by decide +kernel, by decide +kernel, by decide +kernel⟩
theorem cv_X11_round : CWv yX11_round := ⟨wk_1643, wk_1644⟩
theorem cw_X11_salesNow : CW yX11_salesNow cX11_salesNow 1 (some .int) 0 := ⟨wk_1653, wk_12, by decide +kernel, by decide +kernel, by decide +kernel⟩
theorem cv_X11_salesNow : CWv yX11_salesNow := ⟨wk_1652, (wm 92 (by decide +kernel))⟩
theorem cw_X11_change : CW yX11_change cX11_change 4 none 2 := ⟨wk_1657, wk_12, by decide +kernel, by decide +kernel, by decide +kernel⟩
theorem cv_X11_change : CWv yX11_change := ⟨wk_1656, (wm 93 (by decide +kernel))⟩
theorem cw_X11_swap : CW yX11_swap cX11_swap 7 (some .int) 1 := ⟨wk_1649, wk_12, by decide +kernel, by decide +kernel, by decide +kernel⟩
theorem cv_X11_swap : CWv yX11_swap := ⟨wk_1647, wk_1648⟩
theorem cw_X11_moves : CW yX11_moves cX11_moves 4 (some .int) 2 := ⟨wk_1661, wk_12, by decide +kernel, by decide +kernel, by decide +kernel⟩
theorem cv_X11_moves : CWv yX11_moves := ⟨wk_1659, wk_1660⟩
theorem cw_X11_offer : CW yX11_offer cX11_offer 4 (some .int) 2 := ⟨wk_1665, wk_12, by decide +kernel, by decide +kernel, by decide +kernel⟩
theorem cv_X11_offer : CWv yX11_offer := ⟨wk_1663, wk_1664⟩
theorem cw_X11_wise : CW yX11_wise cX11_wise 6 (some .int) 1 := ⟨wk_1670, wk_12, by decide +kernel, by decide +kernel, by decide +kernel⟩
theorem cv_X11_wise : CWv yX11_wise := ⟨wk_1668, wk_1669⟩
theorem cw_X11_theft : CW yX11_theft cX11_theft 8 (some .int) 2 := ⟨wk_1674, wk_12, by decide +kernel, by decide +kernel, by decide +kernel⟩
theorem cv_X11_theft : CWv yX11_theft := ⟨wk_1672, wk_1673⟩
theorem cw_X11_passed : CW yX11_passed cX11_passed 7 (some .int) 3 := ⟨wk_1679, wk_12, by decide +kernel, by decide +kernel, by decide +kernel⟩
theorem cv_X11_passed : CWv yX11_passed := ⟨wk_1677, wk_1678⟩
theorem cw_X11_harmOf : CW yX11_harmOf cX11_harmOf 4 (some .int) 2 := ⟨wk_1687, wk_12, by decide +kernel, by decide +kernel, by decide +kernel⟩
theorem cv_X11_harmOf : CWv yX11_harmOf := ⟨wk_1686, (wm 94 (by decide +kernel))⟩
theorem cw_X11_harm : CW yX11_harm cX11_harm 3 (some .int) 2 := ⟨wk_1683, wk_12, by decide +kernel, by decide +kernel, by decide +kernel⟩
theorem cv_X11_harm : CWv yX11_harm := ⟨wk_1681, wk_1682⟩
theorem cw_X11_least : CW yX11_least cX11_least 6 (some .int) 1 := ⟨wk_1692, wk_12, by decide +kernel, by decide +kernel, by decide +kernel⟩
theorem cv_X11_least : CWv yX11_least := ⟨wk_1690, wk_1691⟩
theorem cw_X11_turn : CW yX11_turn cX11_turn 4 (some .int) 2 := ⟨wk_1696, wk_12, by decide +kernel, by decide +kernel, by decide +kernel⟩
theorem cv_X11_turn : CWv yX11_turn := ⟨wk_1694, wk_1695⟩
theorem cw_X11_isAsAtFirst : CW yX11_isAsAtFirst cX11_isAsAtFirst 3 (some .boolean) 1 := ⟨wk_1705, wk_12, by decide +kernel, by decide +kernel, by decide +kernel⟩
theorem cv_X11_isAsAtFirst : CWv yX11_isAsAtFirst := ⟨wk_1704, (wm 95 (by decide +kernel))⟩
theorem cw_X11_again : CW yX11_again cX11_again 2 (some .int) 0 := ⟨wk_1701, wk_12, by decide +kernel, by decide +kernel, by decide +kernel⟩
theorem cv_X11_again : CWv yX11_again := ⟨wk_1699, wk_1700⟩
theorem cw_X11_draws : CW yX11_draws cX11_draws 4 none 2 := ⟨wk_1718, wk_12, by decide +kernel, by decide +kernel, by decide +kernel⟩
theorem cv_X11_draws : CWv yX11_draws := ⟨wk_1717, (wm 97 (by decide +kernel))⟩
theorem cw_X11_isDraw : CW yX11_isDraw cX11_isDraw 3 (some .boolean) 2 := ⟨wk_1713, wk_12, by decide +kernel, by decide +kernel, by decide +kernel⟩
theorem cv_X11_isDraw : CWv yX11_isDraw := ⟨wk_1712, (wm 96 (by decide +kernel))⟩
theorem cw_X11_drawn : CW yX11_drawn cX11_drawn 3 (some .int) 2 := ⟨wk_1709, wk_12, by decide +kernel, by decide +kernel, by decide +kernel⟩
theorem cv_X11_drawn : CWv yX11_drawn := ⟨wk_1707, wk_1708⟩
theorem cw_X11_chance : CW yX11_chance cX11_chance 7 (some .int) 4 := ⟨wk_1722, wk_12, by decide +kernel, by decide +kernel, by decide +kernel⟩
theorem cv_X11_chance : CWv yX11_chance := ⟨wk_1720, wk_1721⟩
theorem cw_X11_judge : CW yX11_judge cX11_judge 3 (some .int) 1 := ⟨wk_1726, wk_12, by decide +kernel, by decide +kernel, by decide +kernel⟩
theorem cv_X11_judge : CWv yX11_judge := ⟨wk_1724, wk_1725⟩
theorem cw_X11_count : CW yX11_count cX11_count 5 (some .int) 1 := ⟨wk_1730, wk_12, by decide +kernel, by decide +kernel, by decide +kernel⟩
theorem cv_X11_count : CWv yX11_count := ⟨wk_1728, wk_1729⟩
theorem cw_X11_keep : CW yX11_keep cX11_keep 2 (some .int) 1 := ⟨wk_1734, wk_12, by decide +kernel, by decide +kernel, by decide +kernel⟩
theorem cv_X11_keep : CWv yX11_keep := ⟨wk_1732, wk_1733⟩
theorem cw_X11_back : CW yX11_back cX11_back 2 (some .int) 1 := ⟨wk_1738, wk_12, by decide +kernel, by decide +kernel, by decide +kernel⟩
theorem cv_X11_back : CWv yX11_back := ⟨wk_1736, wk_1737⟩
theorem cw_X20_min : CW yX20_min cX20_min 2 (some .int) 2 := ⟨wk_529, wk_13, by decide +kernel, by decide +kernel, by decide +kernel⟩
theorem cv_X20_min : Cond.static yX20_min ∈ WALL := wk_528
theorem cw_X20_max : CW yX20_max cX20_max 2 (some .int) 2 := ⟨wk_743, wk_13, by decide +kernel, by decide +kernel, by decide +kernel⟩
theorem cv_X20_max : Cond.static yX20_max ∈ WALL := wk_742
theorem cw_X20_floorMod : CW yX20_floorMod cX20_floorMod 3 (some .int) 2 := ⟨wk_725, wk_13, by decide +kernel, by decide +kernel, by decide +kernel⟩
theorem cv_X20_floorMod : Cond.static yX20_floorMod ∈ WALL := wk_724
theorem cw_X21_fillI : CW yX21_fillI cX21_fillI 4 none 2 := ⟨wk_886, wk_19, by decide +kernel, by decide +kernel, by decide +kernel⟩
theorem cv_X21_fillI : Cond.static yX21_fillI ∈ WALL := wk_885
theorem cw_X21_fillJ : CW yX21_fillJ cX21_fillJ 5 none 2 := ⟨wk_889, wk_19, by decide +kernel, by decide +kernel, by decide +kernel⟩
theorem cv_X21_fillJ : Cond.static yX21_fillJ ∈ WALL := wk_888
theorem cw_X22_bitCount : CW yX22_bitCount cX22_bitCount 2 (some .int) 1 := ⟨wk_906, wk_20, by decide +kernel, by decide +kernel, by decide +kernel⟩
theorem cv_X22_bitCount : Cond.static yX22_bitCount ∈ WALL := wk_905
theorem cw_X23_length : CW yX23_length cX23_length 1 (some .int) 0 := ⟨wk_550, wk_14, by decide +kernel, by decide +kernel, by decide +kernel⟩
theorem cv_X23_length : CWv yX23_length := ⟨wk_548, wk_549⟩
theorem cw_X23_coder : CW yX23_coder cX23_coder 1 (some .byte) 0 := ⟨wk_554, wk_14, by decide +kernel, by decide +kernel, by decide +kernel⟩
theorem cv_X23_coder : CWv yX23_coder := ⟨wk_552, wk_553⟩
theorem cw_X23_charAt : CW yX23_charAt cX23_charAt 2 (some .char) 1 := ⟨wk_560, wk_14, by decide +kernel, by decide +kernel, by decide +kernel⟩
theorem cv_X23_charAt : CWv yX23_charAt := ⟨wk_558, wk_559⟩
theorem cw_X23_isLatin1 : CW yX23_isLatin1 cX23_isLatin1 1 (some .boolean) 0 := ⟨wk_564, wk_14, by decide +kernel, by decide +kernel, by decide +kernel⟩
theorem cv_X23_isLatin1 : CWv yX23_isLatin1 := ⟨wk_562, wk_563⟩
theorem cw_X23_checkIndex : CW yX23_checkIndex cX23_checkIndex 2 none 2 := ⟨wk_570, wk_14, by decide +kernel, by decide +kernel, by decide +kernel⟩
theorem cv_X23_checkIndex : Cond.static yX23_checkIndex ∈ WALL := wk_569
theorem cw_X24_charAt : CW yX24_charAt cX24_charAt 2 (some .char) 2 := ⟨wk_567, wk_15, by decide +kernel, by decide +kernel, by decide +kernel⟩
theorem cv_X24_charAt : Cond.static yX24_charAt ∈ WALL := wk_566
theorem cw_X25_checkIndex : CW yX25_checkIndex cX25_checkIndex 3 (some .int) 3 := ⟨wk_575, wk_16, by decide +kernel, by decide +kernel, by decide +kernel⟩
theorem cv_X25_checkIndex : Cond.static yX25_checkIndex ∈ WALL := wk_574
