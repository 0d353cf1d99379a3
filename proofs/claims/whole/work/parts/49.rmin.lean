/-! A MINUTE, the reference -/
def RT (M : Mem) (D : MK) (H : HS) (n : Nat) : Prop := (∀ s, s < kNs D → ∀ j, j < n → gI M 28 (60 * s + j) = nI (H 10 s j) ∧ gI M 29 (60 * s + j) = nI (H 11 s j)) ∧ ∀ b, b < kNb D → ∀ j, j < n → gI M 30 (60 * b + j) = nI (H 12 b j)
theorem rmin_eq {M : Mem} {D : MK} {m : Nat} {H0 : HS} (h : RC M D) (hr : RH M D H0) (hop : opS D m H0 = opS D m (hrS D m)) (ht : RT M D (hrS D m) m) (hm : m < kMi D) (k10 : Mem → Nat → Int32 → Option Mem) :
    ∃ M', f_X11_hour_22 k10 FU M 0 (nI m) 0 = k10 M' 0 (nI (m + 1)) ∧ OnlyK inQ M M' ∧ RH M' D (hrS D (m + 1)) ∧ RT M' D (hrS D (m + 1)) (m + 1) := by
  have hW := h.2.1
  have hn := hW.n
  have hMi := hW.mi
  have hP := hW.p
  have hj := jv_hr hW (m := m) (by omega)
  obtain ⟨M1, a1, a2, a3, a4, a5, a6⟩ := ropen_loop hm k10 FU 0 M (by omega) (by unfold FU; omega) h (hr.tag (fun t i j _ => by
    unfold opR
    rw [if_neg (by omega), if_neg (by omega), if_neg (by omega)])) (fun s hs => by omega)
  rw [hop] at a3
  simp only [hop] at a4
  obtain ⟨M2, b1, b2, b3⟩ := hP_loop hj hm k10 FU 0 M1 (by omega) (by unfold FU; omega) (h.onlyK a2) a3
  have h2 := (h.onlyK a2).onlyW b2
  obtain ⟨M3, c1, c2, c3⟩ := learns_loop (jv_trP hj hW (by omega) (kP D)) FU 0 M2 (by omega) (by unfold FU; omega) h2 (b3.tag (fun t i j _ => by
    unfold leS
    rw [if_neg (by omega)]))
  have h3 := h2.onlyW c2
  have c4 : RH M3 D (hrS D (m + 1)) := c3.tag (fun t i j q => by
    show clS D m _ t i j = _
    unfold clS leS
    rw [if_neg (show ¬ (t = 11 ∧ i < kNs D ∧ j = m) by omega), if_neg (show ¬ (t = 12 ∧ i < kNb D ∧ j = m) by omega)])
  obtain ⟨M4, d1, d2, d3, d4, d5⟩ := rclS_loop hm k10 FU 0 M3 (by omega) (by unfold FU; omega) h3 c4 (fun s hs => by omega)
  have w4 : OnlyK inQ M3 M4 := d2.mono (fun a k z => by unfold inQ; omega)
  obtain ⟨M5, e1, e2, e3, e4, e5⟩ := rclB_loop hm k10 FU 0 M4 (by omega) (by unfold FU; omega) (h3.onlyK w4) d3 (fun s hs => by omega)
  have w5 : OnlyK inQ M4 M5 := e2.mono (fun a k z => by unfold inQ; omega)
  refine ⟨M5, ?_, (((a2.tr (b2.mono (fun _ _ => inW_Q))).tr (c2.mono (fun _ _ => inW_Q))).tr w4).tr w5, e3, ?_⟩
  · rw [show (nI 0 : Int32) = 0 from rfl] at a1 b1 c1 d1 e1
    rw [a1, b1, show f_X11_learns M2 0 = f_X11_learns_2 FU M2 0 0 from rfl, c1, bd_t, d1, e1]
  · have x : ∀ a k, a = 28 ∨ a = 29 ∨ a = 30 → gI M3 a k = gI M1 a k := fun a k q => by rw [c2.2 a k (by unfold inW; omega), b2.2 a k (by unfold inW; omega)]
    have tg : ∀ t i j, t = 10 ∨ t = 11 ∨ t = 12 → trP D m (opS D m (hrS D m)) (kP D) t i j = opS D m (hrS D m) t i j := fun t i j q => trP_out (by omega) (by omega) _
    refine ⟨fun s hs j hj' => ⟨?_, ?_⟩, fun b hb j hj' => ?_⟩
    · rw [e2.2 28 _ (show ¬ (28 : Nat) = 30 by decide), d2.2 28 _ (show ¬ (28 : Nat) = 29 by decide), x 28 _ (by decide)]
      have e10 : hrS D (m + 1) 10 s j = opS D m (hrS D m) 10 s j := by
        show clS D m _ 10 s j = _
        unfold clS
        rw [if_neg (by omega), if_neg (by omega), if_neg (by omega), tg 10 s j (by decide)]
      rw [e10]
      by_cases q : j = m
      · subst q
        exact a4 s hs
      · rw [a6 s j (by omega) q, (ht.1 s hs j (by omega)).1]
        unfold opS
        rw [if_neg (by omega), if_neg (by omega), if_neg (by omega)]
    · rw [e2.2 29 _ (show ¬ (29 : Nat) = 30 by decide)]
      by_cases q : j = m
      · subst q
        rw [d4 s hs]
        congr 1
        show clS D j _ 1 s 0 = clS D j _ 11 s j
        unfold clS
        rw [if_neg (by omega), if_neg (by omega), if_neg (by omega), if_neg (by omega), if_pos ⟨rfl, hs, rfl⟩]
      · rw [d5 s j (by omega) q, x 29 _ (by decide), a5 29 _ (by decide), (ht.1 s hs j (by omega)).2]
        congr 1
        show _ = clS D m _ 11 s j
        unfold clS
        rw [if_neg (by omega), if_neg (by omega), if_neg (by omega), tg 11 s j (by decide)]
        unfold opS
        rw [if_neg (by omega), if_neg (by omega), if_neg (by omega)]
    · by_cases q : j = m
      · subst q
        rw [e4 b hb]
        congr 1
        show clS D j _ 4 b 0 = clS D j _ 12 b j
        unfold clS
        rw [if_neg (by omega), if_neg (by omega), if_neg (by omega), if_neg (by omega), if_neg (by omega), if_pos ⟨rfl, hb, rfl⟩]
      · rw [e5 b j (by omega) q, d2.2 30 _ (show ¬ (30 : Nat) = 29 by decide), x 30 _ (by decide), a5 30 _ (by decide), ht.2 b hb j (by omega)]
        congr 1
        show _ = clS D m _ 12 b j
        unfold clS
        rw [if_neg (by omega), if_neg (by omega), if_neg (by omega), tg 12 b j (by decide)]
        unfold opS
        rw [if_neg (by omega), if_neg (by omega), if_neg (by omega)]
