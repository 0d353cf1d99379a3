/-! THE START: the relation holds of what the constructors leave -/
def crT (a0 n : Nat) : Bool := (List.range n).all (fun a => (List.range 18).all (fun k => mutB (a0 + a) k || decide (gR m1 (a0 + a) k = CRf (a0 + a) k)))
theorem crT_0 : crT 0 10 = true := by decide +kernel
theorem crT_1 : crT 10 10 = true := by decide +kernel
theorem crT_2 : crT 20 10 = true := by decide +kernel
theorem crT_3 : crT 30 10 = true := by decide +kernel
theorem crT_4 : crT 40 10 = true := by decide +kernel
theorem crT_5 : crT 50 10 = true := by decide +kernel
theorem crT_6 : crT 60 10 = true := by decide +kernel
theorem crT_7 : crT 70 10 = true := by decide +kernel
theorem crT_8 : crT 80 10 = true := by decide +kernel
theorem crT_9 : crT 90 10 = true := by decide +kernel
theorem crT_10 : crT 100 10 = true := by decide +kernel
theorem crT_11 : crT 110 10 = true := by decide +kernel
theorem crT_12 : crT 120 10 = true := by decide +kernel
theorem crT_13 : crT 130 10 = true := by decide +kernel
theorem crT_14 : crT 140 10 = true := by decide +kernel
theorem crT_15 : crT 150 10 = true := by decide +kernel
theorem crT_16 : crT 160 10 = true := by decide +kernel
theorem crT_17 : crT 170 10 = true := by decide +kernel
theorem crT_18 : crT 180 10 = true := by decide +kernel
theorem crT_19 : crT 190 10 = true := by decide +kernel
theorem crT_20 : crT 200 10 = true := by decide +kernel
theorem crT_21 : crT 210 10 = true := by decide +kernel
theorem crT_22 : crT 220 10 = true := by decide +kernel
theorem crT_23 : crT 230 10 = true := by decide +kernel
theorem crT_24 : crT 240 10 = true := by decide +kernel
theorem crT_25 : crT 250 10 = true := by decide +kernel
theorem crT_26 : crT 260 10 = true := by decide +kernel
theorem crT_27 : crT 270 4 = true := by decide +kernel
theorem crT_use {i n a k : Nat} (h : crT (10 * i) n = true) (h1 : 10 * i ≤ a) (h2 : a < 10 * i + n) (hk : k < 18) (hm : mutB a k = false) : gR m1 a k = CRf a k := by
  have g := List.all_eq_true.mp (List.all_eq_true.mp h (a - 10 * i) (List.mem_range.mpr (by omega))) k (List.mem_range.mpr hk)
  rw [show 10 * i + (a - 10 * i) = a by omega, hm, Bool.false_or] at g
  exact of_decide_eq_true g
theorem crT_all : ∀ i, i < 28 → crT (10 * i) (if i = 27 then 4 else 10) = true := fun i hi => match i, hi with | 0, _ => crT_0 | 1, _ => crT_1 | 2, _ => crT_2 | 3, _ => crT_3 | 4, _ => crT_4 | 5, _ => crT_5 | 6, _ => crT_6 | 7, _ => crT_7 | 8, _ => crT_8 | 9, _ => crT_9 | 10, _ => crT_10 | 11, _ => crT_11 | 12, _ => crT_12 | 13, _ => crT_13 | 14, _ => crT_14 | 15, _ => crT_15 | 16, _ => crT_16 | 17, _ => crT_17 | 18, _ => crT_18 | 19, _ => crT_19 | 20, _ => crT_20 | 21, _ => crT_21 | 22, _ => crT_22 | 23, _ => crT_23 | 24, _ => crT_24 | 25, _ => crT_25 | 26, _ => crT_26 | 27, _ => crT_27 | i + 28, h => absurd h (by omega)
theorem rr_b : (List.range 36).all (fun a => (List.range 54).all (fun k => decide (gR m2 a k = RRf a k))) = true := by decide +kernel
theorem crl_b : CRL.length = 274 ∧ CRL.all (fun l => decide (l.length ≤ 18)) = true := by decide +kernel
theorem rrl_b : RRL.length = 36 ∧ RRL.all (fun l => decide (l.length ≤ 54)) = true := by decide +kernel
theorem getD_far {l : List (List (Option Nat))} {N K : Nat} (h : l.length = N ∧ l.all (fun x => decide (x.length ≤ K)) = true) {a k : Nat} (ha : N ≤ a ∨ K ≤ k) : (l.getD a []).getD k none = none := by
  rw [List.getD_eq_getElem?_getD, List.getD_eq_getElem?_getD]
  rcases Nat.lt_or_ge a l.length with h1 | h1
  · rw [List.getElem?_eq_getElem h1, Option.getD_some, List.getElem?_eq_none]
    · rfl
    · have := List.all_eq_true.mp h.2 _ (List.getElem_mem h1)
      have := of_decide_eq_true this
      omega
  · rw [List.getElem?_eq_none h1]
    rfl
theorem cr_start : CR m1 := by
  intro a k hm
  by_cases ha : a < 274
  · by_cases hk : k < 18
    · refine crT_use (crT_all (a / 10) (by omega)) (by omega) ?_ hk hm
      by_cases h7 : a / 10 = 27
      · rw [if_pos h7]
        omega
      · rw [if_neg h7]
        omega
    · exact (hi_X10 (M := zM) rfl (by omega)).trans (getD_far crl_b (Or.inr (by omega))).symm
  · exact (up_X10 (M := zM) rfl (by omega)).trans (getD_far crl_b (Or.inl (by omega))).symm
theorem rr_start : RR m2 := by
  intro a k
  by_cases ha : a < 36
  · by_cases hk : k < 54
    · have h := List.all_eq_true.mp (List.all_eq_true.mp rr_b a (List.mem_range.mpr ha)) k (List.mem_range.mpr hk)
      exact of_decide_eq_true h
    · exact (hi_X11 (M := zM) rfl (by omega)).trans (getD_far rrl_b (Or.inr (by omega))).symm
  · exact (up_X11 (M := zM) rfl (by omega)).trans (getD_far rrl_b (Or.inl (by omega))).symm
theorem gL_m1 (b j : Nat) : gL m1 b j = 0 := rfl
theorem gL_m2 (b j : Nat) : gL m2 b j = 0 := rfl
theorem p_m1 : gR m1 0 1 = some 3 := by decide +kernel
theorem d_m1 : gR m1 0 2 = some 42 := by decide +kernel
theorem rel_start : Rel m1 m2 := by
  refine ⟨3, 42, fun _ _ _ _ => 0, ⟨cr_start, rr_start, p_m1, d_m1, Or.inl ⟨rfl, rfl⟩, ⟨Or.inl ⟨rfl, rfl, rfl, rfl, rfl, rfl⟩, Nat.zero_le _, Nat.zero_le _, Nat.zero_le _, fun r hr => absurd hr (Nat.not_lt_zero _), fun r hr => absurd hr (Nat.not_lt_zero _), fun r hr => absurd hr (Nat.not_lt_zero _)⟩, fun r m hr => absurd hr (Nat.not_lt_zero _), ?_, ⟨?_, ?_⟩, fun j hj => Or.inl ?_, fun j hj => Or.inl ?_, ?_⟩, Or.inl (by decide +kernel)⟩
  · exact ⟨by decide +kernel, fun r hr => absurd hr (Nat.not_lt_zero _), fun r hr => absurd hr (Nat.not_lt_zero _), fun r hr => absurd hr (Nat.not_lt_zero _)⟩
  · exact ⟨by decide +kernel, fun r hr => absurd hr (Nat.not_lt_zero _), fun r hr => absurd hr (Nat.not_lt_zero _), fun r hr => absurd hr (Nat.not_lt_zero _)⟩
  · exact ⟨0, fun _ => 0, fun _ => 0, fun _ => 0, Nat.zero_le _, by decide +kernel, fun i hi => absurd hi (Nat.not_lt_zero _), fun r m hr => absurd hr (Nat.not_lt_zero _)⟩
  · have h : ∀ j, j < 3 → gI m1 82 j = 0 ∧ gI m2 13 j = 0 := by decide +kernel
    exact h j hj
  · have h : ∀ j, j < 4 → gI m1 (266 + 2 * j) 0 = 0 ∧ gI m2 1 j = -1 := by decide +kernel
    exact h j hj
  · exact ⟨0, Nat.zero_le _, by decide +kernel, by decide +kernel, fun i hi => absurd hi (Nat.not_lt_zero _), by decide +kernel, by decide +kernel⟩
