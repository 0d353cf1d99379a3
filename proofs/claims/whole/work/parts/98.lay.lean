/-! WHAT THE CONSTRUCTORS LEAVE -/
theorem gR_muh {M : Mem} {a N b j : Nat} {x : Option Nat} (h : gR M b j = x) (hn : ¬ (b = a ∧ j < N)) : gR (mulR M a N) b j = x := by
  have e : gR (mulR M a N) b j = if b = a ∧ j < N then some (a + 1 + j) else gR M b j := rfl
  rw [e, if_neg hn]
  exact h
theorem hi_X1_0 {M : Mem} {q b j : Nat} {x : Option Nat} (h : gR M b j = x) (hk : 18 ≤ j) : gR (k_X1_0 M q) b j = x := by
  unfold k_X1_0
  exact (gR_sRn (gR_sRn (gR_sRn h (fun z => absurd z.2 (by omega))) (fun z => absurd z.2 (by omega))) (fun z => absurd z.2 (by omega)))
theorem hi_X1 {M : Mem} {q b j : Nat} {x : Option Nat} (h : gR M b j = x) (hk : 18 ≤ j) : gR (k_X1 M q) b j = x := by
  unfold k_X1
  exact (hi_X1_0 h hk)
theorem up_X1_0 {M : Mem} {q b j : Nat} {x : Option Nat} (h : gR M b j = x) (hk : q + 4 ≤ b) : gR (k_X1_0 M q) b j = x := by
  unfold k_X1_0
  exact (gR_sRn (gR_sRn (gR_sRn h (fun z => absurd z.1 (by omega))) (fun z => absurd z.1 (by omega))) (fun z => absurd z.1 (by omega)))
theorem up_X1 {M : Mem} {q b j : Nat} {x : Option Nat} (h : gR M b j = x) (hk : q + 4 ≤ b) : gR (k_X1 M q) b j = x := by
  unfold k_X1
  exact (up_X1_0 h hk)
theorem hi_X2_0 {M : Mem} {q b j : Nat} {x : Option Nat} (h : gR M b j = x) (hk : 18 ≤ j) : gR (k_X2_0 M q) b j = x := by
  unfold k_X2_0
  exact (gR_sRn (gR_muh (gR_sRn (gR_muh h (fun z => absurd z.2 (by omega))) (fun z => absurd z.2 (by omega))) (fun z => absurd z.2 (by omega))) (fun z => absurd z.2 (by omega)))
theorem hi_X2 {M : Mem} {q b j : Nat} {x : Option Nat} (h : gR M b j = x) (hk : 18 ≤ j) : gR (k_X2 M q) b j = x := by
  unfold k_X2
  exact (hi_X2_0 h hk)
theorem up_X2_0 {M : Mem} {q b j : Nat} {x : Option Nat} (h : gR M b j = x) (hk : q + 14 ≤ b) : gR (k_X2_0 M q) b j = x := by
  unfold k_X2_0
  exact (gR_sRn (gR_muh (gR_sRn (gR_muh h (fun z => absurd z.1 (by omega))) (fun z => absurd z.1 (by omega))) (fun z => absurd z.1 (by omega))) (fun z => absurd z.1 (by omega)))
theorem up_X2 {M : Mem} {q b j : Nat} {x : Option Nat} (h : gR M b j = x) (hk : q + 14 ≤ b) : gR (k_X2 M q) b j = x := by
  unfold k_X2
  exact (up_X2_0 h hk)
theorem hi_X6_0 {M : Mem} {q b j : Nat} {x : Option Nat} (h : gR M b j = x) (hk : 18 ≤ j) : gR (k_X6_0 M q) b j = x := by
  unfold k_X6_0
  exact (gR_sIn (gR_sIn (gR_sIn (gR_sRn h (fun z => absurd z.2 (by omega))) (fun z => absurd z.2 (by omega))) (fun z => absurd z.2 (by omega))) (fun z => absurd z.2 (by omega)))
theorem hi_X6 {M : Mem} {q b j : Nat} {x : Option Nat} (h : gR M b j = x) (hk : 18 ≤ j) : gR (k_X6 M q) b j = x := by
  unfold k_X6
  exact (hi_X6_0 h hk)
theorem up_X6_0 {M : Mem} {q b j : Nat} {x : Option Nat} (h : gR M b j = x) (hk : q + 2 ≤ b) : gR (k_X6_0 M q) b j = x := by
  unfold k_X6_0
  exact (gR_sIn (gR_sIn (gR_sIn (gR_sRn h (fun z => absurd z.1 (by omega))) (fun z => absurd z.1 (by omega))) (fun z => absurd z.1 (by omega))) (fun z => absurd z.1 (by omega)))
theorem up_X6 {M : Mem} {q b j : Nat} {x : Option Nat} (h : gR M b j = x) (hk : q + 2 ≤ b) : gR (k_X6 M q) b j = x := by
  unfold k_X6
  exact (up_X6_0 h hk)
theorem hi_X0_0 {M : Mem} {q b j : Nat} {x : Option Nat} (h : gR M b j = x) (hk : 18 ≤ j) : gR (k_X0_0 M q) b j = x := by
  unfold k_X0_0
  exact (gR_sRn (gR_sRn (gR_sRn h (fun z => absurd z.2 (by omega))) (fun z => absurd z.2 (by omega))) (fun z => absurd z.2 (by omega)))
theorem hi_X0 {M : Mem} {q b j : Nat} {x : Option Nat} (h : gR M b j = x) (hk : 18 ≤ j) : gR (k_X0 M q) b j = x := by
  unfold k_X0
  exact (hi_X0_0 h hk)
theorem up_X0_0 {M : Mem} {q b j : Nat} {x : Option Nat} (h : gR M b j = x) (hk : q + 4 ≤ b) : gR (k_X0_0 M q) b j = x := by
  unfold k_X0_0
  exact (gR_sRn (gR_sRn (gR_sRn h (fun z => absurd z.1 (by omega))) (fun z => absurd z.1 (by omega))) (fun z => absurd z.1 (by omega)))
theorem up_X0 {M : Mem} {q b j : Nat} {x : Option Nat} (h : gR M b j = x) (hk : q + 4 ≤ b) : gR (k_X0 M q) b j = x := by
  unfold k_X0
  exact (up_X0_0 h hk)
theorem hi_X5_0 {M : Mem} {q b j : Nat} {x : Option Nat} (h : gR M b j = x) (hk : 18 ≤ j) : gR (k_X5_0 M q) b j = x := by
  unfold k_X5_0
  exact (gR_sRn (gR_sRn h (fun z => absurd z.2 (by omega))) (fun z => absurd z.2 (by omega)))
theorem hi_X5 {M : Mem} {q b j : Nat} {x : Option Nat} (h : gR M b j = x) (hk : 18 ≤ j) : gR (k_X5 M q) b j = x := by
  unfold k_X5
  exact (hi_X5_0 h hk)
theorem up_X5_0 {M : Mem} {q b j : Nat} {x : Option Nat} (h : gR M b j = x) (hk : q + 3 ≤ b) : gR (k_X5_0 M q) b j = x := by
  unfold k_X5_0
  exact (gR_sRn (gR_sRn h (fun z => absurd z.1 (by omega))) (fun z => absurd z.1 (by omega)))
theorem up_X5 {M : Mem} {q b j : Nat} {x : Option Nat} (h : gR M b j = x) (hk : q + 3 ≤ b) : gR (k_X5 M q) b j = x := by
  unfold k_X5
  exact (up_X5_0 h hk)
theorem hi_X8_0 {M : Mem} {q b j : Nat} {x : Option Nat} (h : gR M b j = x) (hk : 18 ≤ j) : gR (k_X8_0 M q) b j = x := by
  unfold k_X8_0
  exact (gR_sRn (gR_sIn h (fun z => absurd z.2 (by omega))) (fun z => absurd z.2 (by omega)))
theorem hi_X8 {M : Mem} {q b j : Nat} {x : Option Nat} (h : gR M b j = x) (hk : 18 ≤ j) : gR (k_X8 M q) b j = x := by
  unfold k_X8
  exact (hi_X8_0 h hk)
theorem up_X8_0 {M : Mem} {q b j : Nat} {x : Option Nat} (h : gR M b j = x) (hk : q + 2 ≤ b) : gR (k_X8_0 M q) b j = x := by
  unfold k_X8_0
  exact (gR_sRn (gR_sIn h (fun z => absurd z.1 (by omega))) (fun z => absurd z.1 (by omega)))
theorem up_X8 {M : Mem} {q b j : Nat} {x : Option Nat} (h : gR M b j = x) (hk : q + 2 ≤ b) : gR (k_X8 M q) b j = x := by
  unfold k_X8
  exact (up_X8_0 h hk)
theorem hi_X4_0 {M : Mem} {q b j : Nat} {x : Option Nat} (h : gR M b j = x) (hk : 18 ≤ j) : gR (k_X4_0 M q) b j = x := by
  unfold k_X4_0
  exact (gR_sRn (gR_sRn (gR_sRn (gR_sRn h (fun z => absurd z.2 (by omega))) (fun z => absurd z.2 (by omega))) (fun z => absurd z.2 (by omega))) (fun z => absurd z.2 (by omega)))
theorem hi_X4_1 {M : Mem} {q b j : Nat} {x : Option Nat} (h : gR M b j = x) (hk : 18 ≤ j) : gR (k_X4_1 M q) b j = x := by
  unfold k_X4_1
  exact (gR_sRn (gR_sRn h (fun z => absurd z.2 (by omega))) (fun z => absurd z.2 (by omega)))
theorem hi_X4_2 {M : Mem} {q b j : Nat} {x : Option Nat} (h : gR M b j = x) (hk : 18 ≤ j) : gR (k_X4_2 M q) b j = x := by
  unfold k_X4_2
  exact (gR_sRn (gR_sRn (gR_sRn h (fun z => absurd z.2 (by omega))) (fun z => absurd z.2 (by omega))) (fun z => absurd z.2 (by omega)))
theorem hi_X4_3 {M : Mem} {q b j : Nat} {x : Option Nat} (h : gR M b j = x) (hk : 18 ≤ j) : gR (k_X4_3 M q) b j = x := by
  unfold k_X4_3
  exact (gR_sRn (gR_sRn (gR_sRn h (fun z => absurd z.2 (by omega))) (fun z => absurd z.2 (by omega))) (fun z => absurd z.2 (by omega)))
theorem hi_X4_4 {M : Mem} {q b j : Nat} {x : Option Nat} (h : gR M b j = x) (hk : 18 ≤ j) : gR (k_X4_4 M q) b j = x := by
  unfold k_X4_4
  exact (gR_sRn (gR_sRn h (fun z => absurd z.2 (by omega))) (fun z => absurd z.2 (by omega)))
theorem hi_X4_5 {M : Mem} {q b j : Nat} {x : Option Nat} (h : gR M b j = x) (hk : 18 ≤ j) : gR (k_X4_5 M q) b j = x := by
  unfold k_X4_5
  exact (gR_sRn (hi_X1 (gR_sRn (hi_X1 (gR_sRn (hi_X1 h (by omega)) (fun z => absurd z.2 (by omega))) (by omega)) (fun z => absurd z.2 (by omega))) (by omega)) (fun z => absurd z.2 (by omega)))
theorem hi_X4_6 {M : Mem} {q b j : Nat} {x : Option Nat} (h : gR M b j = x) (hk : 18 ≤ j) : gR (k_X4_6 M q) b j = x := by
  unfold k_X4_6
  exact (gR_sRn (hi_X1 (gR_sRn (hi_X1 (gR_sRn (hi_X1 h (by omega)) (fun z => absurd z.2 (by omega))) (by omega)) (fun z => absurd z.2 (by omega))) (by omega)) (fun z => absurd z.2 (by omega)))
theorem hi_X4 {M : Mem} {q b j : Nat} {x : Option Nat} (h : gR M b j = x) (hk : 18 ≤ j) : gR (k_X4 M q) b j = x := by
  unfold k_X4
  exact (hi_X4_6 (hi_X4_5 (hi_X4_4 (hi_X4_3 (hi_X4_2 (hi_X4_1 (hi_X4_0 h hk) hk) hk) hk) hk) hk) hk)
theorem up_X4_0 {M : Mem} {q b j : Nat} {x : Option Nat} (h : gR M b j = x) (hk : q + 39 ≤ b) : gR (k_X4_0 M q) b j = x := by
  unfold k_X4_0
  exact (gR_sRn (gR_sRn (gR_sRn (gR_sRn h (fun z => absurd z.1 (by omega))) (fun z => absurd z.1 (by omega))) (fun z => absurd z.1 (by omega))) (fun z => absurd z.1 (by omega)))
theorem up_X4_1 {M : Mem} {q b j : Nat} {x : Option Nat} (h : gR M b j = x) (hk : q + 39 ≤ b) : gR (k_X4_1 M q) b j = x := by
  unfold k_X4_1
  exact (gR_sRn (gR_sRn h (fun z => absurd z.1 (by omega))) (fun z => absurd z.1 (by omega)))
theorem up_X4_2 {M : Mem} {q b j : Nat} {x : Option Nat} (h : gR M b j = x) (hk : q + 39 ≤ b) : gR (k_X4_2 M q) b j = x := by
  unfold k_X4_2
  exact (gR_sRn (gR_sRn (gR_sRn h (fun z => absurd z.1 (by omega))) (fun z => absurd z.1 (by omega))) (fun z => absurd z.1 (by omega)))
theorem up_X4_3 {M : Mem} {q b j : Nat} {x : Option Nat} (h : gR M b j = x) (hk : q + 39 ≤ b) : gR (k_X4_3 M q) b j = x := by
  unfold k_X4_3
  exact (gR_sRn (gR_sRn (gR_sRn h (fun z => absurd z.1 (by omega))) (fun z => absurd z.1 (by omega))) (fun z => absurd z.1 (by omega)))
theorem up_X4_4 {M : Mem} {q b j : Nat} {x : Option Nat} (h : gR M b j = x) (hk : q + 39 ≤ b) : gR (k_X4_4 M q) b j = x := by
  unfold k_X4_4
  exact (gR_sRn (gR_sRn h (fun z => absurd z.1 (by omega))) (fun z => absurd z.1 (by omega)))
theorem up_X4_5 {M : Mem} {q b j : Nat} {x : Option Nat} (h : gR M b j = x) (hk : q + 39 ≤ b) : gR (k_X4_5 M q) b j = x := by
  unfold k_X4_5
  exact (gR_sRn (up_X1 (gR_sRn (up_X1 (gR_sRn (up_X1 h (by omega)) (fun z => absurd z.1 (by omega))) (by omega)) (fun z => absurd z.1 (by omega))) (by omega)) (fun z => absurd z.1 (by omega)))
theorem up_X4_6 {M : Mem} {q b j : Nat} {x : Option Nat} (h : gR M b j = x) (hk : q + 39 ≤ b) : gR (k_X4_6 M q) b j = x := by
  unfold k_X4_6
  exact (gR_sRn (up_X1 (gR_sRn (up_X1 (gR_sRn (up_X1 h (by omega)) (fun z => absurd z.1 (by omega))) (by omega)) (fun z => absurd z.1 (by omega))) (by omega)) (fun z => absurd z.1 (by omega)))
theorem up_X4 {M : Mem} {q b j : Nat} {x : Option Nat} (h : gR M b j = x) (hk : q + 39 ≤ b) : gR (k_X4 M q) b j = x := by
  unfold k_X4
  exact (up_X4_6 (up_X4_5 (up_X4_4 (up_X4_3 (up_X4_2 (up_X4_1 (up_X4_0 h hk) hk) hk) hk) hk) hk) hk)
theorem hi_X3_0 {M : Mem} {q b j : Nat} {x : Option Nat} (h : gR M b j = x) (hk : 18 ≤ j) : gR (k_X3_0 M q) b j = x := by
  unfold k_X3_0
  exact (gR_sRn (gR_sRn (gR_sRn (gR_sRn (gR_muh (gR_sRn (gR_muh (gR_sRn (gR_muh (gR_sRn (hi_X2 h (by omega)) (fun z => absurd z.2 (by omega))) (fun z => absurd z.2 (by omega))) (fun z => absurd z.2 (by omega))) (fun z => absurd z.2 (by omega))) (fun z => absurd z.2 (by omega))) (fun z => absurd z.2 (by omega))) (fun z => absurd z.2 (by omega))) (fun z => absurd z.2 (by omega))) (fun z => absurd z.2 (by omega))) (fun z => absurd z.2 (by omega)))
theorem hi_X3_1 {M : Mem} {q b j : Nat} {x : Option Nat} (h : gR M b j = x) (hk : 18 ≤ j) : gR (k_X3_1 M q) b j = x := by
  unfold k_X3_1
  exact (gR_sRn (gR_muh (gR_sRn (gR_sRn (gR_sRn (gR_sRn (gR_sRn (gR_sRn (gR_sRn h (fun z => absurd z.2 (by omega))) (fun z => absurd z.2 (by omega))) (fun z => absurd z.2 (by omega))) (fun z => absurd z.2 (by omega))) (fun z => absurd z.2 (by omega))) (fun z => absurd z.2 (by omega))) (fun z => absurd z.2 (by omega))) (fun z => absurd z.2 (by omega))) (fun z => absurd z.2 (by omega)))
theorem hi_X3_2 {M : Mem} {q b j : Nat} {x : Option Nat} (h : gR M b j = x) (hk : 18 ≤ j) : gR (k_X3_2 M q) b j = x := by
  unfold k_X3_2
  exact (gR_sRn h (fun z => absurd z.2 (by omega)))
theorem hi_X3 {M : Mem} {q b j : Nat} {x : Option Nat} (h : gR M b j = x) (hk : 18 ≤ j) : gR (k_X3 M q) b j = x := by
  unfold k_X3
  exact (hi_X3_2 (hi_X3_1 (hi_X3_0 h hk) hk) hk)
theorem up_X3_0 {M : Mem} {q b j : Nat} {x : Option Nat} (h : gR M b j = x) (hk : q + 58 ≤ b) : gR (k_X3_0 M q) b j = x := by
  unfold k_X3_0
  exact (gR_sRn (gR_sRn (gR_sRn (gR_sRn (gR_muh (gR_sRn (gR_muh (gR_sRn (gR_muh (gR_sRn (up_X2 h (by omega)) (fun z => absurd z.1 (by omega))) (fun z => absurd z.1 (by omega))) (fun z => absurd z.1 (by omega))) (fun z => absurd z.1 (by omega))) (fun z => absurd z.1 (by omega))) (fun z => absurd z.1 (by omega))) (fun z => absurd z.1 (by omega))) (fun z => absurd z.1 (by omega))) (fun z => absurd z.1 (by omega))) (fun z => absurd z.1 (by omega)))
theorem up_X3_1 {M : Mem} {q b j : Nat} {x : Option Nat} (h : gR M b j = x) (hk : q + 58 ≤ b) : gR (k_X3_1 M q) b j = x := by
  unfold k_X3_1
  exact (gR_sRn (gR_muh (gR_sRn (gR_sRn (gR_sRn (gR_sRn (gR_sRn (gR_sRn (gR_sRn h (fun z => absurd z.1 (by omega))) (fun z => absurd z.1 (by omega))) (fun z => absurd z.1 (by omega))) (fun z => absurd z.1 (by omega))) (fun z => absurd z.1 (by omega))) (fun z => absurd z.1 (by omega))) (fun z => absurd z.1 (by omega))) (fun z => absurd z.1 (by omega))) (fun z => absurd z.1 (by omega)))
theorem up_X3_2 {M : Mem} {q b j : Nat} {x : Option Nat} (h : gR M b j = x) (hk : q + 58 ≤ b) : gR (k_X3_2 M q) b j = x := by
  unfold k_X3_2
  exact (gR_sRn h (fun z => absurd z.1 (by omega)))
theorem up_X3 {M : Mem} {q b j : Nat} {x : Option Nat} (h : gR M b j = x) (hk : q + 58 ≤ b) : gR (k_X3 M q) b j = x := by
  unfold k_X3
  exact (up_X3_2 (up_X3_1 (up_X3_0 h hk) hk) hk)
theorem hi_X10_0 {M : Mem} {q b j : Nat} {x : Option Nat} (h : gR M b j = x) (hk : 18 ≤ j) : gR (k_X10_0 M q) b j = x := by
  unfold k_X10_0
  exact (gR_sRn (gR_sRn (gR_sRn (gR_sRn (hi_X4 (gR_sRn (hi_X4 (gR_sRn (hi_X6 h (by omega)) (fun z => absurd z.2 (by omega))) (by omega)) (fun z => absurd z.2 (by omega))) (by omega)) (fun z => absurd z.2 (by omega))) (fun z => absurd z.2 (by omega))) (fun z => absurd z.2 (by omega))) (fun z => absurd z.2 (by omega)))
theorem hi_X10_1 {M : Mem} {q b j : Nat} {x : Option Nat} (h : gR M b j = x) (hk : 18 ≤ j) : gR (k_X10_1 M q) b j = x := by
  unfold k_X10_1
  exact (gR_sRn (hi_X5 (gR_sRn (hi_X0 (gR_sIn (gR_sRn (hi_X3 h (by omega)) (fun z => absurd z.2 (by omega))) (fun z => absurd z.2 (by omega))) (by omega)) (fun z => absurd z.2 (by omega))) (by omega)) (fun z => absurd z.2 (by omega)))
theorem hi_X10_2 {M : Mem} {q b j : Nat} {x : Option Nat} (h : gR M b j = x) (hk : 18 ≤ j) : gR (k_X10_2 M q) b j = x := by
  unfold k_X10_2
  exact (gR_sRn (hi_X4 (gR_sRn (hi_X4 (gR_sRn (hi_X4 h (by omega)) (fun z => absurd z.2 (by omega))) (by omega)) (fun z => absurd z.2 (by omega))) (by omega)) (fun z => absurd z.2 (by omega)))
theorem hi_X10_3 {M : Mem} {q b j : Nat} {x : Option Nat} (h : gR M b j = x) (hk : 18 ≤ j) : gR (k_X10_3 M q) b j = x := by
  unfold k_X10_3
  exact (gR_sRn (hi_X8 (gR_sRn (hi_X8 h (by omega)) (fun z => absurd z.2 (by omega))) (by omega)) (fun z => absurd z.2 (by omega)))
theorem hi_X10_4 {M : Mem} {q b j : Nat} {x : Option Nat} (h : gR M b j = x) (hk : 18 ≤ j) : gR (k_X10_4 M q) b j = x := by
  unfold k_X10_4
  exact (gR_sRn (hi_X8 (gR_sRn (hi_X8 h (by omega)) (fun z => absurd z.2 (by omega))) (by omega)) (fun z => absurd z.2 (by omega)))
theorem hi_X10 {M : Mem} {q b j : Nat} {x : Option Nat} (h : gR M b j = x) (hk : 18 ≤ j) : gR (k_X10 M q) b j = x := by
  unfold k_X10
  exact (hi_X10_4 (hi_X10_3 (hi_X10_2 (hi_X10_1 (hi_X10_0 h hk) hk) hk) hk) hk)
theorem up_X10_0 {M : Mem} {q b j : Nat} {x : Option Nat} (h : gR M b j = x) (hk : q + 274 ≤ b) : gR (k_X10_0 M q) b j = x := by
  unfold k_X10_0
  exact (gR_sRn (gR_sRn (gR_sRn (gR_sRn (up_X4 (gR_sRn (up_X4 (gR_sRn (up_X6 h (by omega)) (fun z => absurd z.1 (by omega))) (by omega)) (fun z => absurd z.1 (by omega))) (by omega)) (fun z => absurd z.1 (by omega))) (fun z => absurd z.1 (by omega))) (fun z => absurd z.1 (by omega))) (fun z => absurd z.1 (by omega)))
theorem up_X10_1 {M : Mem} {q b j : Nat} {x : Option Nat} (h : gR M b j = x) (hk : q + 274 ≤ b) : gR (k_X10_1 M q) b j = x := by
  unfold k_X10_1
  exact (gR_sRn (up_X5 (gR_sRn (up_X0 (gR_sIn (gR_sRn (up_X3 h (by omega)) (fun z => absurd z.1 (by omega))) (fun z => absurd z.1 (by omega))) (by omega)) (fun z => absurd z.1 (by omega))) (by omega)) (fun z => absurd z.1 (by omega)))
theorem up_X10_2 {M : Mem} {q b j : Nat} {x : Option Nat} (h : gR M b j = x) (hk : q + 274 ≤ b) : gR (k_X10_2 M q) b j = x := by
  unfold k_X10_2
  exact (gR_sRn (up_X4 (gR_sRn (up_X4 (gR_sRn (up_X4 h (by omega)) (fun z => absurd z.1 (by omega))) (by omega)) (fun z => absurd z.1 (by omega))) (by omega)) (fun z => absurd z.1 (by omega)))
theorem up_X10_3 {M : Mem} {q b j : Nat} {x : Option Nat} (h : gR M b j = x) (hk : q + 274 ≤ b) : gR (k_X10_3 M q) b j = x := by
  unfold k_X10_3
  exact (gR_sRn (up_X8 (gR_sRn (up_X8 h (by omega)) (fun z => absurd z.1 (by omega))) (by omega)) (fun z => absurd z.1 (by omega)))
theorem up_X10_4 {M : Mem} {q b j : Nat} {x : Option Nat} (h : gR M b j = x) (hk : q + 274 ≤ b) : gR (k_X10_4 M q) b j = x := by
  unfold k_X10_4
  exact (gR_sRn (up_X8 (gR_sRn (up_X8 h (by omega)) (fun z => absurd z.1 (by omega))) (by omega)) (fun z => absurd z.1 (by omega)))
theorem up_X10 {M : Mem} {q b j : Nat} {x : Option Nat} (h : gR M b j = x) (hk : q + 274 ≤ b) : gR (k_X10 M q) b j = x := by
  unfold k_X10
  exact (up_X10_4 (up_X10_3 (up_X10_2 (up_X10_1 (up_X10_0 h hk) hk) hk) hk) hk)
theorem hi_X11_0 {M : Mem} {q b j : Nat} {x : Option Nat} (h : gR M b j = x) (hk : 54 ≤ j) : gR (k_X11_0 M q) b j = x := by
  unfold k_X11_0
  exact (gR_sRn (gR_sIn (gR_sRn (gR_sRn (gR_sRn (gR_sRn (gR_sRn h (fun z => absurd z.2 (by omega))) (fun z => absurd z.2 (by omega))) (fun z => absurd z.2 (by omega))) (fun z => absurd z.2 (by omega))) (fun z => absurd z.2 (by omega))) (fun z => absurd z.2 (by omega))) (fun z => absurd z.2 (by omega)))
theorem hi_X11_1 {M : Mem} {q b j : Nat} {x : Option Nat} (h : gR M b j = x) (hk : 54 ≤ j) : gR (k_X11_1 M q) b j = x := by
  unfold k_X11_1
  exact (gR_sRn (gR_sRn (gR_sRn (gR_sRn (gR_sRn (gR_sRn (gR_sRn h (fun z => absurd z.2 (by omega))) (fun z => absurd z.2 (by omega))) (fun z => absurd z.2 (by omega))) (fun z => absurd z.2 (by omega))) (fun z => absurd z.2 (by omega))) (fun z => absurd z.2 (by omega))) (fun z => absurd z.2 (by omega)))
theorem hi_X11_2 {M : Mem} {q b j : Nat} {x : Option Nat} (h : gR M b j = x) (hk : 54 ≤ j) : gR (k_X11_2 M q) b j = x := by
  unfold k_X11_2
  exact (gR_sRn (gR_sRn (gR_sRn (gR_sRn (gR_sRn (gR_sRn (gR_sRn h (fun z => absurd z.2 (by omega))) (fun z => absurd z.2 (by omega))) (fun z => absurd z.2 (by omega))) (fun z => absurd z.2 (by omega))) (fun z => absurd z.2 (by omega))) (fun z => absurd z.2 (by omega))) (fun z => absurd z.2 (by omega)))
theorem hi_X11_3 {M : Mem} {q b j : Nat} {x : Option Nat} (h : gR M b j = x) (hk : 54 ≤ j) : gR (k_X11_3 M q) b j = x := by
  unfold k_X11_3
  exact (gR_sRn (gR_sRn (gR_sRn (gR_sRn (gR_sRn (gR_sRn (gR_sRn h (fun z => absurd z.2 (by omega))) (fun z => absurd z.2 (by omega))) (fun z => absurd z.2 (by omega))) (fun z => absurd z.2 (by omega))) (fun z => absurd z.2 (by omega))) (fun z => absurd z.2 (by omega))) (fun z => absurd z.2 (by omega)))
theorem hi_X11_4 {M : Mem} {q b j : Nat} {x : Option Nat} (h : gR M b j = x) (hk : 54 ≤ j) : gR (k_X11_4 M q) b j = x := by
  unfold k_X11_4
  exact (gR_sRn (gR_sRn (gR_sRn (gR_sRn (gR_sRn (gR_sRn (gR_sRn h (fun z => absurd z.2 (by omega))) (fun z => absurd z.2 (by omega))) (fun z => absurd z.2 (by omega))) (fun z => absurd z.2 (by omega))) (fun z => absurd z.2 (by omega))) (fun z => absurd z.2 (by omega))) (fun z => absurd z.2 (by omega)))
theorem hi_X11_5 {M : Mem} {q b j : Nat} {x : Option Nat} (h : gR M b j = x) (hk : 54 ≤ j) : gR (k_X11_5 M q) b j = x := by
  unfold k_X11_5
  exact (gR_sIn (gR_sIn (gR_sIn (gR_sRn h (fun z => absurd z.2 (by omega))) (fun z => absurd z.2 (by omega))) (fun z => absurd z.2 (by omega))) (fun z => absurd z.2 (by omega)))
theorem hi_X11_6 {M : Mem} {q b j : Nat} {x : Option Nat} (h : gR M b j = x) (hk : 54 ≤ j) : gR (k_X11_6 M q) b j = x := by
  unfold k_X11_6
  exact (gR_sIn h (fun z => absurd z.2 (by omega)))
theorem hi_X11 {M : Mem} {q b j : Nat} {x : Option Nat} (h : gR M b j = x) (hk : 54 ≤ j) : gR (k_X11 M q) b j = x := by
  unfold k_X11
  exact (hi_X11_6 (hi_X11_5 (hi_X11_4 (hi_X11_3 (hi_X11_2 (hi_X11_1 (hi_X11_0 h hk) hk) hk) hk) hk) hk) hk)
theorem up_X11_0 {M : Mem} {q b j : Nat} {x : Option Nat} (h : gR M b j = x) (hk : q + 36 ≤ b) : gR (k_X11_0 M q) b j = x := by
  unfold k_X11_0
  exact (gR_sRn (gR_sIn (gR_sRn (gR_sRn (gR_sRn (gR_sRn (gR_sRn h (fun z => absurd z.1 (by omega))) (fun z => absurd z.1 (by omega))) (fun z => absurd z.1 (by omega))) (fun z => absurd z.1 (by omega))) (fun z => absurd z.1 (by omega))) (fun z => absurd z.1 (by omega))) (fun z => absurd z.1 (by omega)))
theorem up_X11_1 {M : Mem} {q b j : Nat} {x : Option Nat} (h : gR M b j = x) (hk : q + 36 ≤ b) : gR (k_X11_1 M q) b j = x := by
  unfold k_X11_1
  exact (gR_sRn (gR_sRn (gR_sRn (gR_sRn (gR_sRn (gR_sRn (gR_sRn h (fun z => absurd z.1 (by omega))) (fun z => absurd z.1 (by omega))) (fun z => absurd z.1 (by omega))) (fun z => absurd z.1 (by omega))) (fun z => absurd z.1 (by omega))) (fun z => absurd z.1 (by omega))) (fun z => absurd z.1 (by omega)))
theorem up_X11_2 {M : Mem} {q b j : Nat} {x : Option Nat} (h : gR M b j = x) (hk : q + 36 ≤ b) : gR (k_X11_2 M q) b j = x := by
  unfold k_X11_2
  exact (gR_sRn (gR_sRn (gR_sRn (gR_sRn (gR_sRn (gR_sRn (gR_sRn h (fun z => absurd z.1 (by omega))) (fun z => absurd z.1 (by omega))) (fun z => absurd z.1 (by omega))) (fun z => absurd z.1 (by omega))) (fun z => absurd z.1 (by omega))) (fun z => absurd z.1 (by omega))) (fun z => absurd z.1 (by omega)))
theorem up_X11_3 {M : Mem} {q b j : Nat} {x : Option Nat} (h : gR M b j = x) (hk : q + 36 ≤ b) : gR (k_X11_3 M q) b j = x := by
  unfold k_X11_3
  exact (gR_sRn (gR_sRn (gR_sRn (gR_sRn (gR_sRn (gR_sRn (gR_sRn h (fun z => absurd z.1 (by omega))) (fun z => absurd z.1 (by omega))) (fun z => absurd z.1 (by omega))) (fun z => absurd z.1 (by omega))) (fun z => absurd z.1 (by omega))) (fun z => absurd z.1 (by omega))) (fun z => absurd z.1 (by omega)))
theorem up_X11_4 {M : Mem} {q b j : Nat} {x : Option Nat} (h : gR M b j = x) (hk : q + 36 ≤ b) : gR (k_X11_4 M q) b j = x := by
  unfold k_X11_4
  exact (gR_sRn (gR_sRn (gR_sRn (gR_sRn (gR_sRn (gR_sRn (gR_sRn h (fun z => absurd z.1 (by omega))) (fun z => absurd z.1 (by omega))) (fun z => absurd z.1 (by omega))) (fun z => absurd z.1 (by omega))) (fun z => absurd z.1 (by omega))) (fun z => absurd z.1 (by omega))) (fun z => absurd z.1 (by omega)))
theorem up_X11_5 {M : Mem} {q b j : Nat} {x : Option Nat} (h : gR M b j = x) (hk : q + 36 ≤ b) : gR (k_X11_5 M q) b j = x := by
  unfold k_X11_5
  exact (gR_sIn (gR_sIn (gR_sIn (gR_sRn h (fun z => absurd z.1 (by omega))) (fun z => absurd z.1 (by omega))) (fun z => absurd z.1 (by omega))) (fun z => absurd z.1 (by omega)))
theorem up_X11_6 {M : Mem} {q b j : Nat} {x : Option Nat} (h : gR M b j = x) (hk : q + 36 ≤ b) : gR (k_X11_6 M q) b j = x := by
  unfold k_X11_6
  exact (gR_sIn h (fun z => absurd z.1 (by omega)))
theorem up_X11 {M : Mem} {q b j : Nat} {x : Option Nat} (h : gR M b j = x) (hk : q + 36 ≤ b) : gR (k_X11 M q) b j = x := by
  unfold k_X11
  exact (up_X11_6 (up_X11_5 (up_X11_4 (up_X11_3 (up_X11_2 (up_X11_1 (up_X11_0 h hk) hk) hk) hk) hk) hk) hk)
def zM : Mem := (fun _ _ => 0, fun _ _ => 0, fun _ _ => none)
def m1 : Mem := k_X10 zM 0
def m2 : Mem := k_X11 zM 0
theorem zM0 (n : Nat) : Z0 zM n := fun _ _ _ => ⟨rfl, rfl, rfl⟩
theorem blkC : Blk shC 0 bk_X10 := by
  have h : bk_X10 = SHC := by decide +kernel
  intro i c hc
  rw [h] at hc
  rw [Nat.zero_add]
  unfold shC
  rw [List.getD_eq_getElem?_getD, hc]
  rfl
theorem blkR : Blk shR 0 bk_X11 := by
  have h : bk_X11 = SHR := by decide +kernel
  intro i c hc
  rw [h] at hc
  rw [Nat.zero_add]
  unfold shR
  rw [List.getD_eq_getElem?_getD, hc]
  rfl
