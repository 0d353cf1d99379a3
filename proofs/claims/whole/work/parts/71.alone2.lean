/-! A BUYER ALONE: the class sets out; the reference chooses -/
def OnlyA (M M' : Mem) : Prop := CR M' ∧ (∀ a, ¬ inA a → (∀ k, gI M' a k = gI M a k) ∧ ∀ k, gL M' a k = gL M a k) ∧ ∀ a k, a ≠ 142 → gR M' a k = gR M a k
theorem OnlyA.L {M M' M'' : Mem} (h : OnlyA M M') (hO : OnlyL inA M' M'') : OnlyA M M'' :=
  ⟨hO.CR h.1, fun a ha => ⟨fun k => ((hO.2 a ha).1 k).trans ((h.2.1 a ha).1 k), fun k => ((hO.2 a ha).2 k).trans ((h.2.1 a ha).2 k)⟩, fun a k ha => (hO.gR a k).trans (h.2.2 a k ha)⟩
theorem OnlyA.R {M M' : Mem} {k : Nat} {v : Option Nat} (h : OnlyA M M') (hk : mutB 142 k = true) : OnlyA M (sR M' 142 k v) := by
  refine ⟨fun a j q => ?_, fun a ha => h.2.1 a ha, fun a j ha => ?_⟩
  · rw [gR_sR, if_neg]
    · exact h.1 a j q
    · rintro ⟨rfl, rfl⟩
      rw [hk] at q
      cases q
  · rw [gR_sR, if_neg (fun z => ha z.1)]
    exact h.2.2 a j ha
theorem OnlyA.kc {p d : Nat} {D : MK} {M1 M2 M' : Mem} (h : OnlyA M1 M') (hr : Rel0 p d D M1 M2) : KeepC p M1 M' := by
  have hp := p_or hr
  exact ⟨h.1, h.2.2 _ _ (by omega), h.2.2 _ _ (by omega), fun k => (h.2.1 1 (by unfold inA; omega)).1 k, fun k => (h.2.1 2 (by unfold inA; omega)).1 k, fun a q1 q2 => h.2.1 a (by unfold inA; omega), fun k => (h.2.1 82 (by unfold inA; omega)).1 k, fun a q1 q2 => h.2.1 a (by unfold inA; omega)⟩
theorem OnlyA.hr {p : Nat} {D : MK} {M1 M' : Mem} (h : OnlyA M1 M') (t : HourC M1 p D) (hW : WFD D) : HourC M' p D :=
  t.keep ⟨hW.n.2.1, hW.n.2.2, hW.n.1⟩ (h.2.2 _ _ (by omega)) (fun a q1 q2 k => (h.2.1 a (by unfold inA; omega)).1 k)
theorem fillI_loop {q L : Nat} {v : Int32} (hs : shC q = (100, L)) (hL : L < 1000) : ∀ n k M, k ≤ L → L < n + k → (∀ i, i < k → gI M q i = v) → ∃ M', f_X21_fillI_5 n M q v (nI k) (nI L) = some M' ∧ OnlyL (· = q) M M' ∧ ∀ i, i < L → gI M' q i = v := by
  intro n
  induction n with
  | zero => intro k M h1 h2; omega
  | succ n ih =>
    intro k M h1 h2 hz
    show ∃ M', s_X21_fillI_5 (f_X21_fillI_5 n) M q v (nI k) (nI L) = some M' ∧ _
    unfold s_X21_fillI_5
    by_cases hk : k = L
    · rw [if_pos (by rw [hk]; exact nI_le (Nat.le_refl _) (by omega))]
      exact ⟨M, rfl, OnlyL.rf, fun i hi => hz i (by omega)⟩
    rw [if_neg (nI_ge (by omega) (by omega)), aB_t k hs rfl (by omega) (by omega), gd_t, nx_t, nI_clamp (by omega), nI_1]
    obtain ⟨M', e1, e2, e4⟩ := ih (k + 1) (sI M q k v) (by omega) (by omega) (fun i hi => by
      rw [gI_sI]
      by_cases e : i = k
      · rw [if_pos ⟨rfl, e⟩]
      · rw [if_neg (by omega)]
        exact hz i (by omega))
    exact ⟨M', e1, (OnlyL.rf.I (S := (· = q)) rfl).tr e2, e4⟩
theorem fillI_eq {M : Mem} {q L : Nat} {v : Int32} (hs : shC q = (100, L)) (hL : L < 1000) : ∃ M', f_X21_fillI M q v = some M' ∧ OnlyL (· = q) M M' ∧ ∀ i, i < L → gI M' q i = v := by
  unfold f_X21_fillI
  have ho : oB shC q 100 = true := by
    unfold oB
    rw [hs]
    rfl
  rw [ho, gd_t, hs]
  exact fillI_loop hs hL FU 0 M (by omega) (by unfold FU; omega) (fun i hi => by omega)
section SH
variable {p b : Nat} {D : MK} {M : Mem}
theorem wanted_eq (hp : p ∈ MB) (hCR : CR M) (hW : WFD D) (hC : CM M p D) (hb : b < kNb D) : f_X1_wanted M (p + 15 + 4 * b) = some (nI (wnS D b (kBy D b 3))) := by
  have hn := hW.n
  have bs := (mb_sh p hp).2.2.2.2.2.2 b (by omega)
  have h3 := (hW.2.2.2.2.2.2 b hb).2.2.2.1
  have hcb := hC.2.2.2 b hb
  have key := acc_loop (F := fun n c k => f_X1_wanted_4 M n (p + 15 + 4 * b) c k) (A := fun k => nI (wnS D b k)) (N := kBy D b 3) (R := some) (fun n k hk => by
    show s_X1_wanted_4 M (f_X1_wanted_4 M n) (p + 15 + 4 * b) _ (nI k) = _
    unfold s_X1_wanted_4
    rw [bs.1, gd_t, hcb.1 3 (by decide), if_neg (nI_ge hk (by omega)), mk_b5 hCR hp (by omega), bd_t, aB_t k bs.2.2.1 rfl (by omega) (by decide), gd_t, nI_clamp (by omega), (hcb.2 k hk).2.1, nI_add, nI_1]
    rfl) (fun n => by
    show s_X1_wanted_4 M (f_X1_wanted_4 M n) (p + 15 + 4 * b) _ _ = _
    unfold s_X1_wanted_4
    rw [bs.1, gd_t, hcb.1 3 (by decide), if_pos (nI_le (Nat.le_refl _) (by omega))])
  exact key FU 0 (by omega) (by unfold FU; omega)
theorem b000 : ∀ m, m < 64 → bitL (0 : Int64) m = false := by decide +kernel
theorem shop_eq {d : Nat} {M1 M2 : Mem} (h : Rel0 p d D M1 M2) (t : HourC M1 p D) (hb : b < kNb D) {C : Nat} (hC : C ≤ 1000000) : ∃ M', f_X0_shop M1 142 p 85 (nI b) (nI C) = some M' ∧ OnlyA M1 M' ∧ GA M' D b (chL D b C (wnS D b (kBy D b 3)) (g0A D b)) ∧ IvA D b (chL D b C (wnS D b (kBy D b 3)) (g0A D b)) := by
  have hn := h.ba
  have hW := h.wf
  have hp := h.mb
  have hpo := p_or h
  have ms := mb_sh p hp
  have bs := ms.2.2.2.2.2.2 b (by omega)
  have hby := hW.2.2.2.2.2.2 b hb
  have A3 : OnlyA M1 (sR (sR (sR M1 142 3 (some p)) 142 4 (some 85)) 142 5 (some (p + 15 + 4 * b))) := ((OnlyA.R ⟨h.c, fun _ _ => ⟨fun _ => rfl, fun _ => rfl⟩, fun _ _ _ => rfl⟩ rfl).R rfl).R rfl
  have L0 : OnlyL inA (sR (sR (sR M1 142 3 (some p)) 142 4 (some 85)) 142 5 (some (p + 15 + 4 * b))) (sI (sI (sR (sR (sR M1 142 3 (some p)) 142 4 (some 85)) 142 5 (some (p + 15 + 4 * b))) 142 0 0) 142 1 0) := (OnlyL.rf.I (by unfold inA; omega)).I (by unfold inA; omega)
  obtain ⟨Ma, a1, a2, a3⟩ := fillI_eq (M := sI (sI (sR (sR (sR M1 142 3 (some p)) 142 4 (some 85)) 142 5 (some (p + 15 + 4 * b))) 142 0 0) 142 1 0) (q := 143) (v := 0) zC_143 (by decide)
  obtain ⟨Mb, b1, b2, b3, b4⟩ := fillJ_eq (M := Ma) (q := 145) zC_145 (by decide)
  have La : OnlyL inA (sR (sR (sR M1 142 3 (some p)) 142 4 (some 85)) 142 5 (some (p + 15 + 4 * b))) Mb := (L0.tr (a2.mono (fun a z => by unfold inA; omega))).tr (b2.mono (fun a z => by unfold inA; omega))
  have hLc : OnlyL inA (sR (sR (sR M1 142 3 (some p)) 142 4 (some 85)) 142 5 (some (p + 15 + 4 * b))) (cpI Mb (p + 17 + 4 * b) 0 144 0 3) := La.cI (by unfold inA; omega)
  have Ac := A3.L hLc
  have hr := h.kc (Ac.kc h)
  have ht := Ac.hr t hW
  have hHC := hc_of hr ht
  have g3 : ∀ k, gR (cpI Mb (p + 17 + 4 * b) 0 144 0 3) 142 k = gR (sR (sR (sR M1 142 3 (some p)) 142 4 (some 85)) 142 5 (some (p + 15 + 4 * b))) 142 k := fun k => hLc.gR 142 k
  have hX : AX (cpI Mb (p + 17 + 4 * b) 0 144 0 3) p D b := by
    refine ⟨hHC, hb, ?_, ?_, ?_⟩
    · rw [g3, gR_sR, if_neg (by omega), gR_sR, if_neg (by omega), gR_sR, if_pos ⟨rfl, rfl⟩]
    · rw [g3, gR_sR, if_neg (by omega), gR_sR, if_pos ⟨rfl, rfl⟩]
    · rw [g3, gR_sR, if_pos ⟨rfl, rfl⟩]
  have e142 : ∀ k, gI Mb 142 k = gI (sI (sI (sR (sR (sR M1 142 3 (some p)) 142 4 (some 85)) 142 5 (some (p + 15 + 4 * b))) 142 0 0) 142 1 0) 142 k := fun k => ((b2.2 142 (by omega)).1 k).trans ((a2.2 142 (by omega)).1 k)
  have hG : GA (cpI Mb (p + 17 + 4 * b) 0 144 0 3) D b (g0A D b) := by
    refine ⟨?_, ?_, fun m hm => ?_, fun w hw => ?_, fun s hs m hm => ?_⟩
    · rw [gI_cpI, if_neg (by omega), e142, gI_sI, if_neg (by omega), gI_sI, if_pos ⟨rfl, rfl⟩]
      rfl
    · rw [gI_cpI, if_neg (by omega), e142, gI_sI, if_pos ⟨rfl, rfl⟩]
      rfl
    · rw [gI_cpI, if_neg (by omega), (b2.2 143 (by omega)).1, a3 m (by omega)]
      rfl
    · have hw3 : w < 3 := by omega
      rw [gI_cpI, if_pos ⟨rfl, by omega, by omega⟩]
      have e := (hr.cm.2.2.2 b hb).2 w hw
      have e2 : gI (cpI Mb (p + 17 + 4 * b) 0 144 0 3) (p + 17 + 4 * b) w = gI Mb (p + 17 + 4 * b) w := by rw [gI_cpI, if_neg (by omega)]
      rw [show 0 + (w - 0) = w by omega, ← e2, e.2.1]
      show _ = nI (if w < kBy D b 3 then kWt D b w 1 else 0)
      rw [if_pos hw]
    · show bitL (gL Mb 145 s) m = _
      rw [b4 s (by omega), b000 m hm]
      rfl
  have hI := IvA.g0 hW hb
  have hl0 : lkA (g0A D b) (kBy D b 3) = wnS D b (kBy D b 3) := by
    have := hI.2.2.1
    have z : g0A D b 4 0 0 = 0 := rfl
    omega
  have hwl := wn_le hW hb (kBy D b 3) (Nat.le_refl _)
  obtain ⟨M', u1, u2, u3, u4⟩ := shop75 hC hW (wnS D b (kBy D b 3)) FU (g0A D b) _ (by unfold FU; omega) hX hG hI hl0
  refine ⟨M', ?_, Ac.L u2, u3, u4⟩
  have hc3 : CR (sR (sR M1 142 3 (some p)) 142 4 (some 85)) := (((OnlyA.R ⟨h.c, fun _ _ => ⟨fun _ => rfl, fun _ => rfl⟩, fun _ _ _ => rfl⟩ rfl).R rfl : OnlyA M1 _)).1
  have hcb : CR Mb := La.CR A3.1
  have hca : CR Ma := (L0.tr (a2.mono (fun a z => by unfold inA; omega))).CR A3.1
  have hc10 : CR (sI (sI (sR (sR (sR M1 142 3 (some p)) 142 4 (some 85)) 142 5 (some (p + 15 + 4 * b))) 142 0 0) 142 1 0) := A3.1.I.I
  have g5 : gR Mb 142 5 = some (p + 15 + 4 * b) := by rw [La.gR, gR_sR, if_pos ⟨rfl, rfl⟩]
  unfold f_X0_shop
  rw [zC_g, gd_t, nx_t, nx_t, ms.1, gd_t, mk_8 hc3 hp, bd_t, aB_t b ms.2.2.2.1 rfl (by omega) (by decide), gd_t, nI_clamp (n := b) (by omega), mk_b hc3 hp (by omega), bd_t, nx_t, nx_t, nx_t, cr_142_2 hc10, bd_t, a1, bd_t, cr_142_7 hca, bd_t, b1, bd_t, g5, bd_t, bs.1, gd_t, mk_b5 hcb hp (by omega), bd_t, cr_142_6 hcb, bd_t, cB_3 bs.2.2.1 zC_144, gd_t, nx_t]
  show bd (f_X1_wanted (cpI Mb (p + 17 + 4 * b) 0 144 0 3) (p + 15 + 4 * b)) _ = _
  rw [wanted_eq hp hr.c hW hr.cm hb, bd_t]
  exact u1
end SH
/-! the reference -/
def GR (M : Mem) (D : MK) (b : Nat) (G : HS) : Prop := RC M D ∧ gI M 0 48 = nI (G 4 0 0) ∧ gI M 0 49 = nI (G 5 0 0) ∧ (∀ m, m < 60 → gI M 32 m = nI (G 3 m 0)) ∧ (∀ s, s < kNs D → gI M 16 s = nI (G 2 s 0) ∧ (kSl D s 5 ≠ 1 → gI M 17 s = nI (kSl D s 4))) ∧ (∀ w, w < 3 → gI M 26 (3 * b + w) = nI (if w < kBy D b 3 then G 1 w 0 else 0)) ∧ ∀ s, s < kNs D → ∀ m, m < 60 → gI M 33 (60 * s + m) = nI (G 0 s m)
def cBs (c : Cc) : Int32 := match c with | none => -1 | some x => nI (60 * x.1 + x.2.1)
def cLs (c : Cc) : Int32 := match c with | none => 1000000 | some x => nI x.2.2
/-- what the choice writes -/
def inG (a k : Nat) : Prop := a = 16 ∨ a = 26 ∨ a = 32 ∨ a = 33 ∨ (a = 0 ∧ (k = 48 ∨ k = 49))
theorem keepG {M M' : Mem} (h : OnlyK inG M M') (hR : RR M) : KeepR M M' := by
  refine ⟨h.RR hR, fun a k q => h.2 a k (fun z => ?_), fun k => ?_⟩
  · unfold inG at z
    rcases z with rfl | rfl | rfl | rfl | ⟨rfl, rfl | rfl⟩ <;> cases q
  · show M'.2.1 3 k = _
    rw [h.1]
    rfl
theorem RC.onlyG {M M' : Mem} {D : MK} (h : RC M D) (hO : OnlyK inG M M') : RC M' D := by
  refine ⟨hO.RR h.1, h.2.1, h.2.2.1.only (fun a k h1 h2 => hO.2 a k (fun z => by unfold inG at z; omega)), fun r hr m hm => ?_⟩
  rw [hO.2 _ _ (by unfold inG; omega)]
  exact h.2.2.2 r hr m hm
section RG
variable {M : Mem} {D : MK} {b : Nat} {G : HS}
theorem ch41 {x y : Int32} : ∀ n k M, k ≤ 480 → 480 < n + k → RR M → (∀ j, j < k → gI M 33 j = 0) → ∃ M', f_X11_chooses_41 n M 0 x y (nI k) = f_X11_chooses_63 FU M' 0 x y 1 ∧ OnlyK (fun a _ => a = 33) M M' ∧ ∀ j, j < 480 → gI M' 33 j = 0 := by
  intro n
  induction n with
  | zero => intro k M h1 h2; omega
  | succ n ih =>
    intro k M h1 h2 hR hz
    show ∃ M', s_X11_chooses_41 (f_X11_chooses_41 n) M 0 x y (nI k) = _ ∧ _
    unfold s_X11_chooses_41
    by_cases e : k = 480
    · subst e
      rw [if_pos (by decide)]
      exact ⟨M, rfl, OnlyK.rf, hz⟩
    rw [if_neg (show ¬ (480 : Int32) ≤ nI k from nI_ge (b := 480) (by omega) (by decide)), oR, gd_t, rr_51 hR, bd_t, aB_t k zR_33 rfl (by omega) (by decide), gd_t, nx_t, nI_clamp (by omega), vpn0, nI_1]
    obtain ⟨M', a1, a2, a3⟩ := ih (k + 1) (sI M 33 k 0) (by omega) (by omega) hR.I (fun j hj => by
      rw [gI_sI]
      by_cases q : j = k
      · rw [if_pos ⟨rfl, q⟩]
      · rw [if_neg (by omega)]
        exact hz j (by omega))
    exact ⟨M', a1, (OnlyK.rf.I (S := fun a _ => a = 33) rfl).tr a2, a3⟩
theorem ch20 {x y : Int32} : ∀ n k M, k ≤ 60 → 60 < n + k → RR M → (∀ j, j < k → gI M 32 j = 0) → ∃ M', f_X11_chooses_20 n M 0 x y (nI k) = f_X11_chooses_41 FU M' 0 x y 0 ∧ OnlyK (fun a _ => a = 32) M M' ∧ ∀ j, j < 60 → gI M' 32 j = 0 := by
  intro n
  induction n with
  | zero => intro k M h1 h2; omega
  | succ n ih =>
    intro k M h1 h2 hR hz
    show ∃ M', s_X11_chooses_20 (f_X11_chooses_20 n) M 0 x y (nI k) = _ ∧ _
    unfold s_X11_chooses_20
    by_cases e : k = 60
    · subst e
      rw [if_pos (by decide)]
      exact ⟨M, rfl, OnlyK.rf, hz⟩
    rw [if_neg (show ¬ (60 : Int32) ≤ nI k from nI_ge (b := 60) (by omega) (by decide)), oR, gd_t, rr_50 hR, bd_t, aB_t k zR_32 rfl (by omega) (by decide), gd_t, nx_t, nI_clamp (by omega), nI_1]
    obtain ⟨M', a1, a2, a3⟩ := ih (k + 1) (sI M 32 k 0) (by omega) (by omega) hR.I (fun j hj => by
      rw [gI_sI]
      by_cases q : j = k
      · rw [if_pos ⟨rfl, q⟩]
      · rw [if_neg (by omega)]
        exact hz j (by omega))
    exact ⟨M', a1, (OnlyK.rf.I (S := fun a _ => a = 32) rfl).tr a2, a3⟩
theorem m3i (a w : Nat) : (3 : Int32) * nI a + nI w = nI (3 * a + w) := mk_ix 3 rfl a w
def C99 (c : Cc) : Prop := ∀ x, c = some x → x.2.2 ≤ 99
theorem qp99 (hW : WFD D) {s m : Nat} (hs : s < kNs D) : qpS D s m ≤ 99 := qpS_le hW hs m
theorem ch91 (hG : GR M D b G) (hI : IvA D b G) (hb : b < kNb D) {m : Nat} (hm : m < kMi D) {C : Int32} (k63 : Mem → Nat → Int32 → Int32 → Int32 → Option Mem) (k77 : Mem → Nat → Int32 → Int32 → Int32 → Int32 → Int32 → Option Mem) : ∀ n M1 c k, k ≤ kNs D → kNs D < n + k → (M1 = M ∧ C99 c) → ∃ M', (M' = M ∧ C99 (foS (fnI D b G m) (kNs D - k) k c)) ∧ f_X11_chooses_91 k63 k77 n M1 0 (nI b) C (cBs c) (cLs c) (nI m) (nI k) = k77 M' 0 (nI b) C (cBs (foS (fnI D b G m) (kNs D - k) k c)) (cLs (foS (fnI D b G m) (kNs D - k) k c)) (nI (m + 1)) := by
  obtain ⟨hRC, g1, g2, g3, g4, g5, g6⟩ := hG
  have hR := hRC.1
  have hW := hRC.2.1
  have hn := hW.n
  have hMi := hW.mi
  have hkP := hW.p
  have hby := hW.2.2.2.2.2.2 b hb
  refine memfold2 (F := fun n M1 (c : Cc) k => f_X11_chooses_91 k63 k77 n M1 0 (nI b) C (cBs c) (cLs c) (nI m) k) (g := fnI D b G m) (R := fun M' c => k77 M' 0 (nI b) C (cBs c) (cLs c) (nI (m + 1))) (I := fun M1 c => M1 = M ∧ C99 c) (fun n M1 c s hs hM => ?_) (fun n M1 c hM => ?_)
  · obtain ⟨rfl, hc⟩ := hM
    refine ⟨M1, ⟨rfl, ?_⟩, ?_⟩
    · unfold fnI
      cases ha : avO D b G m s with
      | none => exact hc
      | some q =>
        have hq : q ≤ 99 := by
          rw [(avO_some ha).2.2.1]
          exact qp99 hW hs
        cases c with
        | none =>
          intro x hx
          cases hx
          exact hq
        | some y =>
          dsimp only
          split
          · intro x hx
            cases hx
            exact hq
          · exact hc
    have hsl := hW.2.2.2.2.2.1 s hs
    have hq9 := qp99 hW hs (m := m)
    have hpl := kPl_lt (D := D) (by omega) s m
    have hgs := (hI.1 s hs).1 m
    have hst := (hI.1 s hs).2
    have hwo := wantOfR_eq hRC hb (g := kSl D s 2) (by omega)
    have has := asked_eq (H := fun _ i _ => qpS D i m) hRC (fun z => by
      rw [(g4 s hs).2 z]
      unfold qpS
      rw [if_neg z]) (fun _ => rfl) hs hm
    show s_X11_chooses_91 k63 k77 (f_X11_chooses_91 k63 k77 n) M1 0 (nI b) C (cBs c) (cLs c) (nI m) (nI s) = f_X11_chooses_91 k63 k77 n M1 0 (nI b) C (cBs (fnI D b G m s c)) (cLs (fnI D b G m s c)) (nI m) (nI (s + 1))
    unfold s_X11_chooses_91
    rw [oR, gd_t, rr_17 hR, bd_t, aB_l (i := 3) zR_7 (by decide), gd_t, hRC.ns, if_neg (nI_ge hs (by omega)), hRC.of hs (j := 2) (by decide) (y := 2) rfl, bd_t, hwo, bd_t, rr_51 hR, bd_t, m60, aB_t (60 * s + m) zR_33 rfl (by omega) (by decide), gd_t, nx_t, nI_clamp (n := 60 * s + m) (by omega), g6 s hs m (by omega), nI_1]
    unfold fnI avO
    by_cases c2 : G 0 s m = 0
    case' neg =>
      rw [if_neg (nI_ne0 (by omega) (by omega)), if_neg (show ¬ (G 0 s m = 0 ∧ kPl D s m = kBy D b 0) from fun z => c2 z.1)]
    rw [if_pos (show nI (G 0 s m) = 0 by rw [c2]; rfl), placeOf_eq hRC hs hm, bd_t, rr_20 hR, bd_t, m4_0, aB_t (4 * b) zR_10 rfl (by omega) (by decide), gd_t, nI_clamp (n := 4 * b) (by omega), show gI M1 10 (4 * b) = nI (kBy D b 0) from hRC.by hb (j := 0) (by decide)]
    by_cases c1 : kPl D s m = kBy D b 0
    case' neg =>
      rw [if_neg (fun z => c1 ((nI_eq (by omega) (by omega)).mp z)), if_neg (show ¬ (G 0 s m = 0 ∧ kPl D s m = kBy D b 0) from fun z => c1 z.2)]
    rw [if_pos (by rw [c1]), if_pos (show G 0 s m = 0 ∧ kPl D s m = kBy D b 0 from ⟨c2, c1⟩)]
    cases hw : kWo D b (kSl D s 2) with
    | none =>
      dsimp only
      rw [if_pos rfl]
    | some w =>
      dsimp only
      have hwl := (kWo_lt hw).1
      have hk := hby.2.2.2.2.1 w hwl
      have h9 := hI.2.1 w hwl
      rw [if_neg (ne_m1 (by omega)), rr_40 hR, bd_t, m3i, aB_t (3 * b + w) zR_26 rfl (by omega) (by decide), gd_t, nx_t, nI_clamp (n := 3 * b + w) (by omega), g5 w (by omega), if_pos hwl]
      by_cases c3 : G 1 w 0 = 0
      · rw [if_pos (by rw [c3]; rfl), if_pos (Or.inl c3)]
      rw [if_neg (nI_ne0 (by omega) (by omega)), rr_30 hR, bd_t, aB_t s zR_16 rfl (by omega) (by decide), gd_t, nI_clamp (n := s) (by omega), (g4 s hs).1]
      by_cases c4 : G 2 s 0 = 0
      · rw [if_pos (by rw [c4]; rfl), if_pos (Or.inr (Or.inl c4))]
      rw [if_neg (nI_ne0 (by omega) (by omega)), has, bd_t, rr_21 hR, bd_t, show (9 : Int32) * nI b + 3 * nI w + 2 = nI (9 * b + 3 * w + 2) from m9 b w 2, aB_t (9 * b + 3 * w + 2) zR_11 rfl (by omega) (by decide), gd_t, nx_t, nI_clamp (n := 9 * b + 3 * w + 2) (by omega), hRC.wt hb hwl (j := 2) (by decide)]
      by_cases c5 : kWt D b w 2 < qpS D s m
      · rw [if_pos (nI_lt c5 (by omega)), if_pos (Or.inr (Or.inr c5))]
      · rw [if_neg (nI_nlt (by omega) (by omega)), if_neg (show ¬ (G 1 w 0 = 0 ∨ G 2 s 0 = 0 ∨ kWt D b w 2 < qpS D s m) by omega)]
        dsimp only
        cases c with
        | none =>
          rw [if_pos (show nI (qpS D s m) < cLs none from nI_lt (b := 1000000) (by omega) (by decide))]
          rfl
        | some x =>
          have hx := hc x rfl
          dsimp only
          by_cases z : qpS D s m < x.2.2
          · rw [if_pos (show nI (qpS D s m) < cLs (some x) from nI_lt z (by omega)), if_pos z]
            rfl
          · rw [if_neg (show ¬ nI (qpS D s m) < cLs (some x) from nI_nlt (by omega) (by omega)), if_neg z]
  · obtain ⟨rfl, hc⟩ := hM
    show s_X11_chooses_91 k63 k77 (f_X11_chooses_91 k63 k77 n) M1 0 (nI b) C (cBs c) (cLs c) (nI m) (nI (kNs D)) = _
    unfold s_X11_chooses_91
    rw [oR, gd_t, rr_17 hR, bd_t, aB_l (i := 3) zR_7 (by decide), gd_t, hRC.ns, if_pos (nI_le (Nat.le_refl _) (by omega)), nI_1]
/-- what comes behind the search -/
def ch77R (k63 : Mem → Nat → Int32 → Int32 → Int32 → Option Mem) (M : Mem) (b : Nat) (C : Int32) (c : Cc) : Option Mem := if cBs c = -1 then k63 M 0 (nI b) C 0 else if C < gI M 0 49 + cLs c then k63 M 0 (nI b) C 0 else f_X11_chooses_273 k63 M 0 (nI b) C (cBs c) (cLs c) 1
theorem ch77 (hG : GR M D b G) (hI : IvA D b G) (hb : b < kNb D) {C : Int32} (k63 : Mem → Nat → Int32 → Int32 → Int32 → Option Mem) : ∀ n M1 c k, k ≤ kMi D → kMi D < n + k → (M1 = M ∧ C99 c) → ∃ M', (M' = M ∧ C99 (foS (fnO D b G) (kMi D - k) k c)) ∧ f_X11_chooses_77 k63 n M1 0 (nI b) C (cBs c) (cLs c) (nI k) = ch77R k63 M' b C (foS (fnO D b G) (kMi D - k) k c) := by
  have hRC := hG.1
  have hR := hRC.1
  have hW := hRC.2.1
  have hn := hW.n
  have hMi := hW.mi
  refine memfold2 (F := fun n M1 (c : Cc) k => f_X11_chooses_77 k63 n M1 0 (nI b) C (cBs c) (cLs c) k) (g := fnO D b G) (R := fun M' c => ch77R k63 M' b C c) (I := fun M1 c => M1 = M ∧ C99 c) (fun n M1 c m hm hM => ?_) (fun n M1 c hM => ?_)
  · obtain ⟨rfl, hc⟩ := hM
    obtain ⟨M', ⟨e1, e2⟩, e3⟩ := ch91 hG hI hb hm (C := C) k63 (f_X11_chooses_77 k63 n) FU M1 c 0 (by omega) (by unfold FU; omega) ⟨rfl, hc⟩
    refine ⟨M', ⟨e1, e2⟩, ?_⟩
    show s_X11_chooses_77 k63 (f_X11_chooses_77 k63 n) M1 0 (nI b) C (cBs c) (cLs c) (nI m) = _
    unfold s_X11_chooses_77
    rw [oR, gd_t, rr_17 hR, bd_t, aB_l (i := 1) zR_7 (by decide), gd_t, hRC.mi, if_neg (nI_ge hm (by omega))]
    exact e3
  · obtain ⟨rfl, hc⟩ := hM
    show s_X11_chooses_77 k63 (f_X11_chooses_77 k63 n) M1 0 (nI b) C (cBs c) (cLs c) (nI (kMi D)) = _
    unfold s_X11_chooses_77 ch77R f_X11_chooses_272
    rw [oR, gd_t, rr_17 hR, bd_t, aB_l (i := 1) zR_7 (by decide), gd_t, hRC.mi, if_pos (nI_le (Nat.le_refl _) (by omega))]
    have e0 : f_X11_chooses_273 k63 M1 0 (nI b) C (cBs c) (cLs c) 0 = k63 M1 0 (nI b) C 0 := by
      unfold f_X11_chooses_273
      rw [if_pos rfl]
    rw [e0]
theorem ch273 (hG : GR M D b G) (hI : IvA D b G) (hb : b < kNb D) {x : Nat × Nat × Nat} (hA : avO D b G x.2.1 x.1 = some x.2.2) (hs : x.1 < kNs D) (hm : x.2.1 < kMi D) {C : Int32} (k63 : Mem → Nat → Int32 → Int32 → Int32 → Option Mem) : ∃ M', f_X11_chooses_273 k63 M 0 (nI b) C (nI (60 * x.1 + x.2.1)) (nI x.2.2) 1 = k63 M' 0 (nI b) C 1 ∧ OnlyK inG M M' ∧ GR M' D b (tkG D b x G) := by
  obtain ⟨a1, a2, a3, a4, a5, a6, a7⟩ := avO_some hA
  obtain ⟨hRC, g1, g2, g3, g4, g5, g6⟩ := hG
  have hR := hRC.1
  have hW := hRC.2.1
  have hn := hW.n
  have hMi := hW.mi
  have hsl := hW.2.2.2.2.2.1 x.1 hs
  have hby := hW.2.2.2.2.2.2 b hb
  have hwl := (kWo_lt a4).1
  have hst := (hI.1 x.1 hs).2
  have ed : nI (60 * x.1 + x.2.1) / (60 : Int32) = nI x.1 := by
    rw [show (60 : Int32) = nI 60 from rfl, pk_div (by omega) (by decide) (by decide), show (60 * x.1 + x.2.1) / 60 = x.1 by omega]
  have em : nI (60 * x.1 + x.2.1) - nI x.1 * (60 : Int32) = nI x.2.1 := by
    rw [show (60 : Int32) = nI 60 from rfl, pk_mul, pk_sub (by omega), show 60 * x.1 + x.2.1 - x.1 * 60 = x.2.1 by omega]
  have hO1 : OnlyK inG M (sI M 33 (60 * x.1 + x.2.1) 1) := OnlyK.rf.I (by unfold inG; omega)
  have hO2 : OnlyK inG M (sI (sI M 33 (60 * x.1 + x.2.1) 1) 16 x.1 (nI (G 2 x.1 0) - 1)) := hO1.I (by unfold inG; omega)
  have hRC2 := hRC.onlyG hO2
  have hwo := wantOfR_eq hRC2 hb (g := kSl D x.1 2) (by omega)
  rw [a4] at hwo
  have hO3 : OnlyK inG M (sI (sI (sI M 33 (60 * x.1 + x.2.1) 1) 16 x.1 (nI (G 2 x.1 0) - 1)) 26 (3 * b + wIx D b x.1) (nI (G 1 (wIx D b x.1) 0) - 1)) := hO2.I (by unfold inG; omega)
  have hO6 : OnlyK inG M (sI (sI (sI (sI (sI (sI M 33 (60 * x.1 + x.2.1) 1) 16 x.1 (nI (G 2 x.1 0) - 1)) 26 (3 * b + wIx D b x.1) (nI (G 1 (wIx D b x.1) 0) - 1)) 32 x.2.1 (nI (G 3 x.2.1 0 + 1))) 0 48 (nI (G 4 0 0 + 1))) 0 49 (nI (G 5 0 0 + x.2.2))) := ((hO3.I (by unfold inG; omega)).I (by unfold inG; omega)).I (by unfold inG; omega)
  refine ⟨_, ?_, hO6, hRC.onlyG hO6, ?_, ?_, fun m hm' => ?_, fun s hs' => ⟨?_, fun z => ?_⟩, fun w hw => ?_, fun s hs' m hm' => ?_⟩
  · unfold f_X11_chooses_273
    rw [if_neg (show ¬ (1 : Int32) = 0 by decide), oR, gd_t, rr_51 hR, bd_t, aB_t (60 * x.1 + x.2.1) zR_33 rfl (by omega) (by decide), gd_t, nx_t, nI_clamp (n := 60 * x.1 + x.2.1) (by omega), vpn1, rr_30 hR.I, bd_t, ed, aB_t x.1 zR_16 rfl (by omega) (by decide), gd_t, nx_t, nx_t, nI_clamp (n := x.1) (by omega), show gI (sI M 33 (60 * x.1 + x.2.1) 1) 16 x.1 = nI (G 2 x.1 0) by rw [gI_sI, if_neg (by omega)]; exact (g4 x.1 hs).1, rr_40 hR.I.I, bd_t, hRC2.of hs (j := 2) (by decide) (y := 2) rfl, bd_t, hwo, bd_t]
    dsimp only
    rw [m3i, aB_t (3 * b + wIx D b x.1) zR_26 rfl (by omega) (by decide), gd_t, nx_t, nx_t, nI_clamp (n := 3 * b + wIx D b x.1) (by omega), show gI (sI (sI M 33 (60 * x.1 + x.2.1) 1) 16 x.1 (nI (G 2 x.1 0) - 1)) 26 (3 * b + wIx D b x.1) = nI (G 1 (wIx D b x.1) 0) by rw [gI_sI, if_neg (by omega), gI_sI, if_neg (by omega), g5 _ (by omega), if_pos hwl], rr_50 hR.I.I.I, bd_t, em, aB_t x.2.1 zR_32 rfl (by omega) (by decide), gd_t, nx_t, nx_t, nx_t, nx_t, nI_clamp (n := x.2.1) (by omega), show gI (sI (sI (sI M 33 (60 * x.1 + x.2.1) 1) 16 x.1 (nI (G 2 x.1 0) - 1)) 26 (3 * b + wIx D b x.1) (nI (G 1 (wIx D b x.1) 0) - 1)) 32 x.2.1 = nI (G 3 x.2.1 0) by rw [gI_sI, if_neg (by omega), gI_sI, if_neg (by omega), gI_sI, if_neg (by omega), g3 _ (by omega)], nI_1]
    have o4 : ∀ v k, gI (sI (sI (sI (sI M 33 (60 * x.1 + x.2.1) 1) 16 x.1 (nI (G 2 x.1 0) - 1)) 26 (3 * b + wIx D b x.1) (nI (G 1 (wIx D b x.1) 0) - 1)) 32 x.2.1 v) 0 k = gI M 0 k := fun v k => by rw [gI_sI, if_neg (by omega), gI_sI, if_neg (by omega), gI_sI, if_neg (by omega), gI_sI, if_neg (by omega)]
    rw [o4, g1, nI_1, gI_sI, if_neg (by omega), o4, g2, nI_add]
  · rw [gI_sI, if_neg (by omega), gI_sI, if_pos ⟨rfl, rfl⟩, tk4]
  · rw [gI_sI, if_pos ⟨rfl, rfl⟩, tk5]
  · rw [gI_sI, if_neg (by omega), gI_sI, if_neg (by omega), gI_sI, tk3]
    by_cases e : m = x.2.1
    · rw [if_pos ⟨rfl, e⟩, if_pos e, e]
    · rw [if_neg (fun z => e z.2), if_neg e, gI_sI, if_neg (by omega), gI_sI, if_neg (by omega), gI_sI, if_neg (by omega)]
      exact g3 m hm'
  · rw [gI_sI, if_neg (by omega), gI_sI, if_neg (by omega), gI_sI, if_neg (by omega), gI_sI, if_neg (by omega), gI_sI, tk2]
    by_cases e : s = x.1
    · rw [if_pos ⟨rfl, e⟩, if_pos e, e]
      obtain ⟨y, hy⟩ : ∃ y, G 2 x.1 0 = y + 1 := ⟨G 2 x.1 0 - 1, by omega⟩
      rw [hy, nI_pred]
      rfl
    · rw [if_neg (fun z => e z.2), if_neg e, gI_sI, if_neg (by omega)]
      exact (g4 s hs').1
  · rw [hO6.2 _ _ (by unfold inG; omega)]
    exact (g4 s hs').2 z
  · rw [gI_sI, if_neg (by omega), gI_sI, if_neg (by omega), gI_sI, if_neg (by omega), gI_sI, tk1]
    by_cases e : w = wIx D b x.1
    · rw [if_pos ⟨rfl, by omega⟩, if_pos e, e, if_pos hwl]
      obtain ⟨y, hy⟩ : ∃ y, G 1 (wIx D b x.1) 0 = y + 1 := ⟨G 1 (wIx D b x.1) 0 - 1, by omega⟩
      rw [hy, nI_pred]
      rfl
    · rw [if_neg (fun z => e (by omega)), if_neg e, gI_sI, if_neg (by omega), gI_sI, if_neg (by omega)]
      exact g5 w hw
  · rw [gI_sI, if_neg (by omega), gI_sI, if_neg (by omega), gI_sI, if_neg (by omega), gI_sI, if_neg (by omega), gI_sI, if_neg (by omega), gI_sI, tk0]
    by_cases e : s = x.1 ∧ m = x.2.1
    · rw [if_pos ⟨rfl, by omega⟩, if_pos e]
      rfl
    · rw [if_neg (fun z => e (by omega)), if_neg e]
      exact g6 s hs' m hm'
theorem lkA_0 (h : lkA G (kBy D b 3) = 0) : ∀ m s, avO D b G m s = none := by
  intro m s
  cases ha : avO D b G m s with
  | none => rfl
  | some q =>
    obtain ⟨a1, a2, a3, a4, a5, a6, a7⟩ := avO_some ha
    have := lkA_pos (G := G) (kWo_lt a4).1
    omega
theorem ch63 {C : Nat} (hC : C ≤ 1000000) (hb : b < kNb D) : ∀ N n G M, N + 1 < n → GR M D b G → IvA D b G → lkA G (kBy D b 3) = N → ∃ M', f_X11_chooses_63 n M 0 (nI b) (nI C) 1 = some M' ∧ OnlyK inG M M' ∧ GR M' D b (chL D b C N G) := by
  intro N
  induction N with
  | zero =>
    intro n G M hn hG hI hN
    obtain ⟨n, rfl⟩ : ∃ n', n = n' + 2 := ⟨n - 2, by omega⟩
    have hMi := hG.1.2.1.mi
    obtain ⟨M1, ⟨rfl, -⟩, e2⟩ := ch77 hG hI hb (C := nI C) (f_X11_chooses_63 (n + 1)) FU M none 0 (by omega) (by unfold FU; omega) ⟨rfl, fun x hx => by cases hx⟩
    have hf : foS (fnO D b G) (kMi D - 0) 0 none = none := fnA_none (lkA_0 hN)
    rw [hf] at e2
    refine ⟨M1, ?_, OnlyK.rf, hG⟩
    show s_X11_chooses_63 (f_X11_chooses_63 (n + 1)) M1 0 (nI b) (nI C) 1 = _
    unfold s_X11_chooses_63
    rw [if_neg (show ¬ (1 : Int32) = 0 by decide)]
    refine Eq.trans e2 ?_
    unfold ch77R
    rw [if_pos (show cBs none = -1 from rfl)]
    show s_X11_chooses_63 (f_X11_chooses_63 n) M1 0 (nI b) (nI C) 0 = _
    unfold s_X11_chooses_63
    rw [if_pos rfl]
  | succ N ih =>
    intro n G M hn hG hI hN
    obtain ⟨n, rfl⟩ : ∃ n', n = n' + 2 := ⟨n - 2, by omega⟩
    have hW := hG.1.2.1
    have hMi := hW.mi
    have hw := wn_le hW hb (kBy D b 3) (Nat.le_refl _)
    have h3 := (hW.2.2.2.2.2.2 b hb).2.2.2.1
    have hwn := hI.2.2.1
    have hsp := hI.2.2.2
    obtain ⟨M1, ⟨rfl, e1⟩, e2⟩ := ch77 hG hI hb (C := nI C) (f_X11_chooses_63 (n + 1)) FU M none 0 (by omega) (by unfold FU; omega) ⟨rfl, fun x hx => by cases hx⟩
    have hok := fnA_ok (D := D) (b := b) (G := G)
    have ef : foS (fnO D b G) (kMi D - 0) 0 none = fnA D b G := rfl
    rw [ef] at e1 e2
    have stop : f_X11_chooses_63 (n + 1) M1 0 (nI b) (nI C) 0 = some M1 := by
      show s_X11_chooses_63 (f_X11_chooses_63 n) M1 0 (nI b) (nI C) 0 = _
      unfold s_X11_chooses_63
      rw [if_pos rfl]
    show ∃ M', s_X11_chooses_63 (f_X11_chooses_63 (n + 1)) M1 0 (nI b) (nI C) 1 = some M' ∧ _
    unfold s_X11_chooses_63 chL
    rw [if_neg (show ¬ (1 : Int32) = 0 by decide)]
    have e2' : f_X11_chooses_77 (f_X11_chooses_63 (n + 1)) FU M1 0 (nI b) (nI C) (-1) 1000000 0 = ch77R (f_X11_chooses_63 (n + 1)) M1 b (nI C) (fnA D b G) := e2
    rw [e2']
    unfold ch77R
    cases hf : fnA D b G with
    | none =>
      rw [if_pos (show cBs none = -1 from rfl), stop]
      exact ⟨M1, rfl, OnlyK.rf, hG⟩
    | some x =>
      obtain ⟨o1, o2, o3⟩ := hok x hf
      have hx9 : x.2.2 ≤ 99 := e1 x hf
      have hn3 := hW.n
      dsimp only
      rw [if_neg (show ¬ cBs (some x) = -1 from ne_m1 (by omega)), hG.2.2.1, show nI (G 5 0 0) + cLs (some x) = nI (G 5 0 0 + x.2.2) from nI_add _ _]
      by_cases z : C < G 5 0 0 + x.2.2
      · rw [if_pos (nI_lt z (by omega)), if_pos z, stop]
        exact ⟨M1, rfl, OnlyK.rf, hG⟩
      · rw [if_neg (nI_nlt (by omega) (by omega)), if_neg z]
        obtain ⟨M2, t1, t2, t3⟩ := ch273 hG hI hb o1 o2 o3 (C := nI C) (f_X11_chooses_63 (n + 1))
        have hI2 := hI.tk hW o1 o2 o3 hx9
        have hl := lk_tk o1
        obtain ⟨M3, u1, u2, u3⟩ := ih (n + 1) (tkG D b x G) M2 (by omega) t3 hI2 (by omega)
        rw [show cBs (some x) = nI (60 * x.1 + x.2.1) from rfl, show cLs (some x) = nI x.2.2 from rfl, t1]
        exact ⟨M3, u1, t2.tr u2, u3⟩
theorem chooses_eq {C : Nat} (hC : C ≤ 1000000) (hR : RR M) (hW : WFD D) (hm : RM M 0 D) (hb : b < kNb D) : ∃ M', f_X11_chooses M 0 (nI b) (nI C) = some M' ∧ KeepR M M' ∧ GR M' D b (chL D b C (wnS D b (kBy D b 3)) (g0A D b)) := by
  have hn := hW.n
  have hby := hW.2.2.2.2.2.2 b hb
  obtain ⟨Ma, a1, a2, a3⟩ := asTold_eq hR hW hm
  obtain ⟨Mb, H0, b1, b2, b3, -, b5⟩ := rbegin_eq a3
  have hRb := a3.onlyK b2
  have k0 : OnlyK inG Mb (sI (sI Mb 0 48 0) 0 49 0) := (OnlyK.rf.I (by unfold inG; omega)).I (by unfold inG; omega)
  obtain ⟨Mc, c1, c2, c3⟩ := ch20 (x := nI b) (y := nI C) FU 0 (sI (sI Mb 0 48 0) 0 49 0) (by omega) (by decide) (k0.RR hRb.1) (fun j hj => by omega)
  have k1 : OnlyK inG Mb Mc := k0.tr (c2.mono (fun a _ z => by unfold inG; omega))
  obtain ⟨Md, d1, d2, d3⟩ := ch41 (x := nI b) (y := nI C) FU 0 Mc (by omega) (by decide) (k1.RR hRb.1) (fun j hj => by omega)
  have k2 : OnlyK inG Mb Md := k1.tr (d2.mono (fun a _ z => by unfold inG; omega))
  have cd : ∀ a k, ¬ (a = 32 ∨ a = 33) → gI Md a k = gI (sI (sI Mb 0 48 0) 0 49 0) a k := fun a k z => by
    rw [d2.2 a k (fun y => z (Or.inr y)), c2.2 a k (fun y => z (Or.inl y))]
  have cb : ∀ a k, ¬ (a = 32 ∨ a = 33) → a ≠ 0 → gI Md a k = gI Mb a k := fun a k z y => by
    rw [cd a k z, gI_sI, if_neg (fun q => y q.1), gI_sI, if_neg (fun q => y q.1)]
  have hGR : GR Md D b (g0A D b) := by
    refine ⟨hRb.onlyG k2, ?_, ?_, fun m hm' => ?_, fun s hs => ⟨?_, fun z => ?_⟩, fun w hw => ?_, fun s hs m hm' => ?_⟩
    · rw [cd _ _ (by omega), gI_sI, if_neg (by omega), gI_sI, if_pos ⟨rfl, rfl⟩]
      rfl
    · rw [cd _ _ (by omega), gI_sI, if_pos ⟨rfl, rfl⟩]
      rfl
    · rw [d2.2 _ _ (by omega), c3 m hm']
      rfl
    · rw [cb _ _ (by omega) (by decide), (b3.2.1 s hs).1, b5 1 s 0 (by decide) (by decide)]
      rfl
    · rw [cb _ _ (by omega) (by decide), (b3.2.1 s hs).2.1 z, b5 0 s 0 (by decide) (by decide)]
      rfl
    · rw [cb _ _ (by omega) (by decide), (b3.2.2.1 b hb).2.2.2.1 w hw, b5 5 b w (by decide) (by decide)]
      show nI (if w < kBy D b 3 then (if w < kBy D b 3 then kWt D b w 1 else 0) else 0) = nI (if w < kBy D b 3 then (if w < kBy D b 3 then kWt D b w 1 else 0) else 0)
      rfl
    · rw [d3 _ (by omega)]
      rfl
  have hI := IvA.g0 hW hb
  have hl0 : lkA (g0A D b) (kBy D b 3) = wnS D b (kBy D b 3) := by
    have := hI.2.2.1
    have z : g0A D b 4 0 0 = 0 := rfl
    omega
  have hwl := wn_le hW hb (kBy D b 3) (Nat.le_refl _)
  obtain ⟨M', u1, u2, u3⟩ := ch63 hC hb (wnS D b (kBy D b 3)) FU (g0A D b) Md (by unfold FU; omega) hGR hI hl0
  refine ⟨M', ?_, (a2.tr (KeepR.K a3.1 b2)).tr (keepG (k2.tr u2) hRb.1), u3⟩
  unfold f_X11_chooses
  rw [oR, gd_t, a1, bd_t, b1, bd_t, nx_t, nx_t]
  have c1' : f_X11_chooses_20 FU (sI (sI Mb 0 48 0) 0 49 0) 0 (nI b) (nI C) 0 = f_X11_chooses_41 FU Mc 0 (nI b) (nI C) 0 := c1
  have d1' : f_X11_chooses_41 FU Mc 0 (nI b) (nI C) 0 = f_X11_chooses_63 FU Md 0 (nI b) (nI C) 1 := d1
  rw [c1', d1', u1]
end RG
