/-! MARKETS COPIED, both sides; what is left as it was -/
def OnlyL (S : Nat → Prop) (M M' : Mem) : Prop := M'.2.2 = M.2.2 ∧ ∀ a, ¬ S a → (∀ k, gI M' a k = gI M a k) ∧ ∀ k, gL M' a k = gL M a k
theorem OnlyL.rf {S : Nat → Prop} {M : Mem} : OnlyL S M M := ⟨rfl, fun _ _ => ⟨fun _ => rfl, fun _ => rfl⟩⟩
theorem OnlyL.tr {S : Nat → Prop} {M M' M'' : Mem} (h : OnlyL S M M') (h' : OnlyL S M' M'') : OnlyL S M M'' := ⟨h'.1.trans h.1, fun a ha => ⟨fun k => ((h'.2 a ha).1 k).trans ((h.2 a ha).1 k), fun k => ((h'.2 a ha).2 k).trans ((h.2 a ha).2 k)⟩⟩
theorem OnlyL.mono {S T : Nat → Prop} {M M' : Mem} (h : OnlyL S M M') (hs : ∀ a, S a → T a) : OnlyL T M M' := ⟨h.1, fun a ha => h.2 a (fun z => ha (hs a z))⟩
theorem OnlyL.I {S : Nat → Prop} {M M' : Mem} {a k : Nat} {v : Int32} (h : OnlyL S M M') (ha : S a) : OnlyL S M (sI M' a k v) := ⟨h.1, fun b hb => ⟨fun j => by
  rw [gI_sI, if_neg (fun z => hb (by rw [z.1]; exact ha))]
  exact (h.2 b hb).1 j, fun j => (h.2 b hb).2 j⟩⟩
theorem OnlyL.L {S : Nat → Prop} {M M' : Mem} {a k : Nat} {v : Int64} (h : OnlyL S M M') (ha : S a) : OnlyL S M (sL M' a k v) := ⟨h.1, fun b hb => ⟨fun j => (h.2 b hb).1 j, fun j => by
  rw [gL_sL, if_neg (fun z => hb (by rw [z.1]; exact ha))]
  exact (h.2 b hb).2 j⟩⟩
theorem OnlyL.gR {S : Nat → Prop} {M M' : Mem} (h : OnlyL S M M') (a k : Nat) : gR M' a k = gR M a k := by
  show M'.2.2 a k = M.2.2 a k
  rw [h.1]
theorem OnlyL.CR {S : Nat → Prop} {M M' : Mem} (h : OnlyL S M M') (hc : CR M) : CR M' := fun a k q => (h.gR a k).trans (hc a k q)
theorem Only.toL {S : Nat → Prop} {M M' : Mem} (h : Only S M M') : OnlyL S M M' := ⟨by rw [h.1], fun a ha => ⟨fun k => h.2 a ha k, fun k => h.gL a k⟩⟩
theorem OnlyL.cI {S : Nat → Prop} {M M' : Mem} {s sp d dp n : Nat} (h : OnlyL S M M') (hd : S d) : OnlyL S M (cpI M' s sp d dp n) := ⟨h.1, fun b hb => ⟨fun j => by
  rw [gI_cpI, if_neg (fun z => hb (by rw [z.1]; exact hd))]
  exact (h.2 b hb).1 j, fun j => (h.2 b hb).2 j⟩⟩
def cpF (M : Mem) (q q' : Nat) : Nat → Mem
  | 0 => M
  | n + 1 => sI (cpF M q q' n) q n (gI (cpF M q q' n) q' n)
theorem cpF_g {M : Mem} {q q' : Nat} (hq : q ≠ q') : ∀ n a k, gI (cpF M q q' n) a k = if a = q ∧ k < n then gI M q' k else gI M a k
  | 0, a, k => by rw [if_neg (by omega)]; rfl
  | n + 1, a, k => by
    have e1 : gI (cpF M q q' n) q' n = gI M q' n := by rw [cpF_g hq n q' n, if_neg (fun z => hq z.1.symm)]
    show gI (sI (cpF M q q' n) q n (gI (cpF M q q' n) q' n)) a k = _
    rw [gI_sI, e1, cpF_g hq n a k]
    by_cases e : a = q ∧ k = n
    · rw [if_pos e, if_pos ⟨e.1, by omega⟩, e.2]
    · rw [if_neg e]
      by_cases e2 : a = q ∧ k < n
      · rw [if_pos e2, if_pos ⟨e2.1, by omega⟩]
      · rw [if_neg e2, if_neg (by omega)]
theorem cpF_o {M : Mem} {q q' : Nat} {S : Nat → Prop} (hS : S q) : ∀ n, OnlyL S M (cpF M q q' n)
  | 0 => OnlyL.rf
  | n + 1 => (cpF_o hS n).I hS
theorem gR_cpI (M : Mem) (s sp d dp n b j : Nat) : gR (cpI M s sp d dp n) b j = gR M b j := rfl
theorem mb_dj : ∀ b ∈ MB, ∀ c ∈ MB, b ≠ c → b + 39 ≤ c ∨ c + 39 ≤ b := by decide
theorem X7_take {M : Mem} {q q' : Nat} (hq : q ≠ q') (ho : oB shC q 7 = true) (ho' : oB shC q' 7 = true) (hz : isZ (gI M q' 1) = true) : f_X7_take M q q' = some (sL (cpF M q q' 2) q 2 (gL M q' 2)) := by
  unfold f_X7_take
  rw [ho', gd_t, ho, gd_t, nx_t, gI_sI, if_neg (by omega), hz, gd_t, nx_t, nx_t]
  show some (sL (sI (sI M q 0 (gI M q' 0)) q 1 (gI M q' 1)) q 2 (gL M q' 2)) = some (sL (sI (sI M q 0 (gI M q' 0)) q 1 (gI (sI M q 0 (gI M q' 0)) q' 1)) q 2 (gL M q' 2))
  rw [gI_sI, if_neg (by omega)]
theorem X9_take {M : Mem} {q q' : Nat} (ho : oB shC q 9 = true) (ho' : oB shC q' 9 = true) : f_X9_take M q q' = some (cpF M q q' 7) := by
  unfold f_X9_take
  rw [ho', gd_t, ho, gd_t, nx_t, nx_t, nx_t, nx_t, nx_t, nx_t, nx_t]
  rfl
theorem cB_3 {s d : Nat} (hs : shC s = (100, 3)) (hd : shC d = (100, 3)) : cB shC 0 s 0 d 0 3 = true := by
  unfold cB
  rw [hs, hd]
  decide
theorem X1_take {M : Mem} {b c i : Nat} (hb : b ∈ MB) (hc : c ∈ MB) (hCR : CR M) (hi : i < 6) : f_X1_take M (b + 15 + 4 * i) (c + 15 + 4 * i) = some (cpI (cpI (cpI (cpF M (b + 15 + 4 * i) (c + 15 + 4 * i) 4) (c + 16 + 4 * i) 0 (b + 16 + 4 * i) 0 3) (c + 17 + 4 * i) 0 (b + 17 + 4 * i) 0 3) (c + 18 + 4 * i) 0 (b + 18 + 4 * i) 0 3) := by
  have sb := (mb_sh b hb).2.2.2.2.2.2 i hi
  have sc := (mb_sh c hc).2.2.2.2.2.2 i hi
  unfold f_X1_take
  rw [sc.1, gd_t, sb.1, gd_t, nx_t, nx_t, nx_t, nx_t]
  simp only [gR_sI]
  rw [mk_b4 hCR hc hi, bd_t, mk_b4 hCR hb hi, bd_t, cB_3 sc.2.1 sb.2.1, gd_t, nx_t]
  simp only [gR_cpI, gR_sI]
  rw [mk_b5 hCR hc hi, bd_t, mk_b5 hCR hb hi, bd_t, cB_3 sc.2.2.1 sb.2.2.1, gd_t, nx_t]
  simp only [gR_cpI, gR_sI]
  rw [mk_b6 hCR hc hi, bd_t, mk_b6 hCR hb hi, bd_t, cB_3 sc.2.2.2 sb.2.2.2, gd_t, nx_t]
  rfl
def CMr (M : Mem) (b : Nat) (D : MK) (r : Nat) : Prop := gI M (b + 4 + r) 0 = nI (kRg D r 0) ∧ gI M (b + 4 + r) 1 = nI (kRg D r 1) ∧ ∀ m, m < 64 → bitL (gL M (b + 4 + r) 2) m = (kSt D r m == 1)
def CMs (M : Mem) (b : Nat) (D : MK) (s : Nat) : Prop := ∀ j, j < 7 → gI M (b + 7 + s) j = nI (kSl D s j)
def CMb (M : Mem) (b : Nat) (D : MK) (i : Nat) : Prop := (∀ j, j < 4 → gI M (b + 15 + 4 * i) j = nI (kBy D i j)) ∧ ∀ w, w < kBy D i 3 → gI M (b + 16 + 4 * i) w = nI (kWt D i w 0) ∧ gI M (b + 17 + 4 * i) w = nI (kWt D i w 1) ∧ gI M (b + 18 + 4 * i) w = nI (kWt D i w 2)
def CMh (M : Mem) (b : Nat) (D : MK) : Prop := gI M b 0 = nI (kP D) ∧ gI M b 1 = nI (kMi D) ∧ gI M b 2 = nI (kLn D) ∧ gI M b 3 = nI (kNr D) ∧ gI M b 4 = nI (kNs D) ∧ gI M b 5 = nI (kNb D)
def inB (b a : Nat) : Prop := b ≤ a ∧ a < b + 39
section TK
variable {b c : Nat} {D : MK}
theorem CM.onlyL {M M' : Mem} (h : CM M c D) (hW : WFD D) (hO : OnlyL (inB b) M M') (hd : b + 39 ≤ c ∨ c + 39 ≤ b) : CM M' c D :=
  h.keep hW.n (fun a h1 h2 => hO.2 a (by unfold inB; omega))
theorem take112 (hb : b ∈ MB) (hc : c ∈ MB) (hd : b + 39 ≤ c ∨ c + 39 ≤ b) (hW : WFD D) : ∀ n k M, k ≤ kNb D → kNb D < n + k → CR M → CM M c D → CMh M b D → (∀ r, r < kNr D → CMr M b D r) → (∀ s, s < kNs D → CMs M b D s) → (∀ i, i < k → CMb M b D i) → ∃ M', f_X4_take_112 n M b c (nI k) = some M' ∧ OnlyL (inB b) M M' ∧ CM M' b D := by
  intro n
  induction n with
  | zero => intro k M h1 h2; omega
  | succ n ih =>
    intro k M h1 h2 hCR hC q1 q2 q3 q4
    have hN := hW.n
    have sb := mb_sh b hb
    have sc := mb_sh c hc
    show ∃ M', s_X4_take_112 (f_X4_take_112 n) M b c (nI k) = some M' ∧ _
    unfold s_X4_take_112
    rw [sb.1, gd_t, q1.2.2.2.2.2]
    by_cases hk : k = kNb D
    · rw [if_pos (by rw [hk]; exact nI_le (Nat.le_refl _) (by omega))]
      exact ⟨M, rfl, OnlyL.rf, q1, q2, q3, fun i hi => q4 i (by omega)⟩
    have hk' : k < kNb D := by omega
    rw [if_neg (nI_ge hk' (by omega)), mk_8 hCR hb, bd_t, aB_t k sb.2.2.2.1 rfl (by omega) (by decide), gd_t, nI_clamp (by omega), mk_b hCR hb (by omega), bd_t, sc.1, gd_t, mk_8 hCR hc, bd_t, aB_t k sc.2.2.2.1 rfl (by omega) (by decide), gd_t, mk_b hCR hc (by omega), bd_t, (sb.2.2.2.2.2.2 k (by omega)).1, gd_t, X1_take hb hc hCR (by omega), bd_t, nI_1]
    have hO : OnlyL (fun a => b + 15 + 4 * k ≤ a ∧ a < b + 19 + 4 * k) M (cpI (cpI (cpI (cpF M (b + 15 + 4 * k) (c + 15 + 4 * k) 4) (c + 16 + 4 * k) 0 (b + 16 + 4 * k) 0 3) (c + 17 + 4 * k) 0 (b + 17 + 4 * k) 0 3) (c + 18 + 4 * k) 0 (b + 18 + 4 * k) 0 3) := (((cpF_o (by omega) 4).cI (by omega)).cI (by omega)).cI (by omega)
    have hB : OnlyL (inB b) M _ := hO.mono (fun a z => by unfold inB; omega)
    have hf := cpF_g (M := M) (q := b + 15 + 4 * k) (q' := c + 15 + 4 * k) (by omega) 4
    have hCk := hC.2.2.2 k hk'
    have h3 := (hW.2.2.2.2.2.2 k hk').2.2.2.1
    obtain ⟨M', e1, e2, e3⟩ := ih (k + 1) _ (by omega) (by omega) (hB.CR hCR) (hC.onlyL hW hB hd) (by
      unfold CMh
      simp only [(hO.2 b (by omega)).1]
      exact q1) (fun r hr => by
      unfold CMr
      simp only [(hO.2 (b + 4 + r) (by omega)).1, (hO.2 (b + 4 + r) (by omega)).2]
      exact q2 r hr) (fun s hs => by
      unfold CMs
      simp only [(hO.2 (b + 7 + s) (by omega)).1]
      exact q3 s hs) (fun i hi => by
      by_cases e : i = k
      · subst e
        refine ⟨fun j hj => ?_, fun w hw => ⟨?_, ?_, ?_⟩⟩
        · rw [gI_cpI, if_neg (by omega), gI_cpI, if_neg (by omega), gI_cpI, if_neg (by omega), hf, if_pos ⟨rfl, hj⟩]
          exact hCk.1 j hj
        · rw [gI_cpI, if_neg (by omega), gI_cpI, if_neg (by omega), gI_cpI, if_pos (by omega), hf, if_neg (by omega), show 0 + (w - 0) = w by omega]
          exact (hCk.2 w hw).1
        · rw [gI_cpI, if_neg (by omega), gI_cpI, if_pos (by omega), gI_cpI, if_neg (by omega), hf, if_neg (by omega), show 0 + (w - 0) = w by omega]
          exact (hCk.2 w hw).2.1
        · rw [gI_cpI, if_pos (by omega), gI_cpI, if_neg (by omega), gI_cpI, if_neg (by omega), hf, if_neg (by omega), show 0 + (w - 0) = w by omega]
          exact (hCk.2 w hw).2.2
      · unfold CMb
        simp only [(hO.2 (b + 15 + 4 * i) (by omega)).1, (hO.2 (b + 16 + 4 * i) (by omega)).1, (hO.2 (b + 17 + 4 * i) (by omega)).1, (hO.2 (b + 18 + 4 * i) (by omega)).1]
        exact q4 i (by omega))
    exact ⟨M', e1, hB.tr e2, e3⟩
theorem take81 (hb : b ∈ MB) (hc : c ∈ MB) (hd : b + 39 ≤ c ∨ c + 39 ≤ b) (hW : WFD D) : ∀ n k M, k ≤ kNs D → kNs D < n + k → CR M → CM M c D → CMh M b D → (∀ r, r < kNr D → CMr M b D r) → (∀ s, s < k → CMs M b D s) → ∃ M', f_X4_take_81 n M b c (nI k) = some M' ∧ OnlyL (inB b) M M' ∧ CM M' b D := by
  intro n
  induction n with
  | zero => intro k M h1 h2; omega
  | succ n ih =>
    intro k M h1 h2 hCR hC q1 q2 q3
    have hN := hW.n
    have sb := mb_sh b hb
    have sc := mb_sh c hc
    show ∃ M', s_X4_take_81 (f_X4_take_81 n) M b c (nI k) = some M' ∧ _
    unfold s_X4_take_81
    rw [sb.1, gd_t, q1.2.2.2.2.1]
    by_cases hk : k = kNs D
    · rw [if_pos (by rw [hk]; exact nI_le (Nat.le_refl _) (by omega))]
      exact take112 hb hc hd hW FU 0 M (by omega) (by unfold FU; omega) hCR hC q1 q2 (fun s hs => q3 s (by omega)) (fun i hi => by omega)
    have hk' : k < kNs D := by omega
    rw [if_neg (nI_ge hk' (by omega)), mk_7 hCR hb, bd_t, aB_t k sb.2.2.1 rfl (by omega) (by decide), gd_t, nI_clamp (by omega), mk_s hCR hb (by omega), bd_t, sc.1, gd_t, mk_7 hCR hc, bd_t, aB_t k sc.2.2.1 rfl (by omega) (by decide), gd_t, mk_s hCR hc (by omega), bd_t, sb.2.2.2.2.2.1 k (by omega), gd_t, X9_take (sb.2.2.2.2.2.1 k (by omega)) (sc.2.2.2.2.2.1 k (by omega)), bd_t, nI_1]
    have hO : OnlyL (· = b + 7 + k) M (cpF M (b + 7 + k) (c + 7 + k) 7) := cpF_o (S := (· = b + 7 + k)) rfl 7
    have hB : OnlyL (inB b) M _ := hO.mono (fun a z => by unfold inB; omega)
    have hf := cpF_g (M := M) (q := b + 7 + k) (q' := c + 7 + k) (by omega) 7
    have hCk := hC.2.2.1 k hk'
    obtain ⟨M', e1, e2, e3⟩ := ih (k + 1) _ (by omega) (by omega) (hB.CR hCR) (hC.onlyL hW hB hd) (by
      unfold CMh
      simp only [(hO.2 b (by omega)).1]
      exact q1) (fun r hr => by
      unfold CMr
      simp only [(hO.2 (b + 4 + r) (by omega)).1, (hO.2 (b + 4 + r) (by omega)).2]
      exact q2 r hr) (fun s hs => by
      by_cases e : s = k
      · subst e
        intro j hj
        rw [hf, if_pos ⟨rfl, hj⟩]
        exact hCk j hj
      · unfold CMs
        simp only [(hO.2 (b + 7 + s) (by omega)).1]
        exact q3 s (by omega))
    exact ⟨M', e1, hB.tr e2, e3⟩
theorem take50 (hb : b ∈ MB) (hc : c ∈ MB) (hd : b + 39 ≤ c ∨ c + 39 ≤ b) (hW : WFD D) : ∀ n k M, k ≤ kNr D → kNr D < n + k → CR M → CM M c D → CMh M b D → (∀ r, r < k → CMr M b D r) → ∃ M', f_X4_take_50 n M b c (nI k) = some M' ∧ OnlyL (inB b) M M' ∧ CM M' b D := by
  intro n
  induction n with
  | zero => intro k M h1 h2; omega
  | succ n ih =>
    intro k M h1 h2 hCR hC q1 q2
    have hN := hW.n
    have sb := mb_sh b hb
    have sc := mb_sh c hc
    show ∃ M', s_X4_take_50 (f_X4_take_50 n) M b c (nI k) = some M' ∧ _
    unfold s_X4_take_50
    rw [sb.1, gd_t, q1.2.2.2.1]
    by_cases hk : k = kNr D
    · rw [if_pos (by rw [hk]; exact nI_le (Nat.le_refl _) (by omega))]
      exact take81 hb hc hd hW FU 0 M (by omega) (by unfold FU; omega) hCR hC q1 (fun s hs => q2 s (by omega)) (fun i hi => by omega)
    have hk' : k < kNr D := by omega
    have hCk := hC.2.1 k hk'
    have hz : isZ (gI M (c + 4 + k) 1) = true := by
      rw [hCk.2.1]
      have := (hW.2.2.2.2.1 k hk').2.1
      have e : kRg D k 1 = 0 ∨ kRg D k 1 = 1 := by omega
      rcases e with e | e <;> rw [e] <;> rfl
    rw [if_neg (nI_ge hk' (by omega)), mk_6 hCR hb, bd_t, aB_t k sb.2.1 rfl (by omega) (by decide), gd_t, nI_clamp (by omega), mk_r hCR hb (by omega), bd_t, sc.1, gd_t, mk_6 hCR hc, bd_t, aB_t k sc.2.1 rfl (by omega) (by decide), gd_t, mk_r hCR hc (by omega), bd_t, sb.2.2.2.2.1 k (by omega), gd_t, X7_take (by omega) (sb.2.2.2.2.1 k (by omega)) (sc.2.2.2.2.1 k (by omega)) hz, bd_t, nI_1]
    have hO : OnlyL (· = b + 4 + k) M (sL (cpF M (b + 4 + k) (c + 4 + k) 2) (b + 4 + k) 2 (gL M (c + 4 + k) 2)) := (cpF_o (S := (· = b + 4 + k)) rfl 2).L rfl
    have hB : OnlyL (inB b) M _ := hO.mono (fun a z => by unfold inB; omega)
    have hf := cpF_g (M := M) (q := b + 4 + k) (q' := c + 4 + k) (by omega) 2
    obtain ⟨M', e1, e2, e3⟩ := ih (k + 1) _ (by omega) (by omega) (hB.CR hCR) (hC.onlyL hW hB hd) (by
      unfold CMh
      simp only [(hO.2 b (by omega)).1]
      exact q1) (fun r hr => by
      by_cases e : r = k
      · subst e
        refine ⟨?_, ?_, fun m hm => ?_⟩
        · rw [gI_sL, hf, if_pos ⟨rfl, by decide⟩]
          exact hCk.1
        · rw [gI_sL, hf, if_pos ⟨rfl, by decide⟩]
          exact hCk.2.1
        · rw [gL_sL, if_pos ⟨rfl, rfl⟩]
          exact hCk.2.2 m hm
      · unfold CMr
        simp only [(hO.2 (b + 4 + r) (by omega)).1, (hO.2 (b + 4 + r) (by omega)).2]
        exact q2 r (by omega))
    exact ⟨M', e1, hB.tr e2, e3⟩
theorem take_eq {M : Mem} (hb : b ∈ MB) (hc : c ∈ MB) (hne : b ≠ c) (hCR : CR M) (hW : WFD D) (hC : CM M c D) : ∃ M', f_X4_take M b c = some M' ∧ OnlyL (inB b) M M' ∧ CM M' b D := by
  have hd := mb_dj b hb c hc hne
  have hO : OnlyL (inB b) M (cpF M b c 6) := cpF_o (by unfold inB; omega) 6
  have hf := cpF_g (M := M) (q := b) (q' := c) hne 6
  obtain ⟨M', e1, e2, e3⟩ := take50 hb hc hd hW FU 0 (cpF M b c 6) (by omega) (by have := hW.n; unfold FU; omega) (hO.CR hCR) (hC.onlyL hW hO hd) (by
    unfold CMh
    simp only [hf]
    simpa using hC.1) (fun r hr => by omega)
  refine ⟨M', ?_, hO.tr e2, e3⟩
  unfold f_X4_take
  rw [(mb_sh c hc).1, gd_t, (mb_sh b hb).1, gd_t, nx_t, nx_t, nx_t, nx_t, nx_t, nx_t]
  exact e1
end TK
/-! the reference -/
def cpL' : List (Nat × Nat) := [(6, 1), (7, 6), (8, 6), (9, 56), (10, 24), (11, 54), (12, 12)]
theorem cpL_or {q w : Nat} (h : (q, w) ∈ cpL') : (q = 6 ∧ w = 1) ∨ (q = 7 ∧ w = 6) ∨ (q = 8 ∧ w = 6) ∨ (q = 9 ∧ w = 56) ∨ (q = 10 ∧ w = 24) ∨ (q = 11 ∧ w = 54) ∨ (q = 12 ∧ w = 12) := by
  simpa [cpL'] using h
theorem RM.cp {M M' : Mem} {a b : Nat} {D : MK} (h : RM M a D) (hW : WFD D) (hc : ∀ q w, (q, w) ∈ cpL' → ∀ k, k < w → gI M' q (w * b + k) = gI M q (w * a + k)) : RM M' b D := by
  obtain ⟨⟨h1, h2, h3, h4⟩, n, sr, sf, st, g1, g2, g3, g4⟩ := h
  have hN := hW.n
  have c6 : gI M' 6 b = gI M 6 a := by
    have := hc 6 1 (by decide) 0 (by decide)
    simpa using this
  have c7 : ∀ k, k < 6 → gI M' 7 (6 * b + k) = gI M 7 (6 * a + k) := hc 7 6 (by decide)
  refine ⟨⟨⟨?_, ?_, ?_, ?_, ?_, ?_⟩, fun r hr => ⟨?_, ?_⟩, fun s hs j hj => ?_, fun i hi => ⟨fun j hj => ?_, fun w hw j hj => ?_⟩⟩, n, sr, sf, st, g1, ?_, fun i hi => ?_, g4⟩
  · exact (c7 0 (by decide)).trans h1.1
  · exact (c7 1 (by decide)).trans h1.2.1
  · exact c6.trans h1.2.2.1
  · exact (c7 2 (by decide)).trans h1.2.2.2.1
  · exact (c7 3 (by decide)).trans h1.2.2.2.2.1
  · exact (c7 4 (by decide)).trans h1.2.2.2.2.2
  · have := hc 8 6 (by decide) (2 * r) (by omega)
    rw [show 2 * (3 * b + r) = 6 * b + 2 * r by omega, this, show 6 * a + 2 * r = 2 * (3 * a + r) by omega]
    exact (h2 r hr).1
  · have := hc 8 6 (by decide) (2 * r + 1) (by omega)
    rw [show 2 * (3 * b + r) + 1 = 6 * b + (2 * r + 1) by omega, this, show 6 * a + (2 * r + 1) = 2 * (3 * a + r) + 1 by omega]
    exact (h2 r hr).2
  · have := hc 9 56 (by decide) (7 * s + j) (by omega)
    rw [show 7 * (8 * b + s) + j = 56 * b + (7 * s + j) by omega, this, show 56 * a + (7 * s + j) = 7 * (8 * a + s) + j by omega]
    exact h3 s hs j hj
  · have := hc 10 24 (by decide) (4 * i + j) (by omega)
    rw [show 4 * (6 * b + i) + j = 24 * b + (4 * i + j) by omega, this, show 24 * a + (4 * i + j) = 4 * (6 * a + i) + j by omega]
    exact (h4 i hi).1 j hj
  · have hw3 := (hW.2.2.2.2.2.2 i hi).2.2.2.1
    have := hc 11 54 (by decide) (9 * i + 3 * w + j) (by omega)
    rw [show 9 * (6 * b + i) + 3 * w + j = 54 * b + (9 * i + 3 * w + j) by omega, this, show 54 * a + (9 * i + 3 * w + j) = 9 * (6 * a + i) + 3 * w + j by omega]
    exact (h4 i hi).2 w hw j hj
  · exact (c7 5 (by decide)).trans g2
  · have e : ∀ j, j < 3 → gI M' 12 (3 * (4 * b + i) + j) = gI M 12 (3 * (4 * a + i) + j) := fun j hj => by
      have := hc 12 12 (by decide) (3 * i + j) (by omega)
      rw [show 3 * (4 * b + i) + j = 12 * b + (3 * i + j) by omega, this, show 12 * a + (3 * i + j) = 3 * (4 * a + i) + j by omega]
    have g := g3 i hi
    exact ⟨g.1, g.2.1, g.2.2.1, (e 0 (by decide)).trans g.2.2.2.1, (e 1 (by decide)).trans g.2.2.2.2.1, (e 2 (by decide)).trans g.2.2.2.2.2⟩
theorem copyRow_eq {q w a b L : Nat} (hs : shR q = (100, L)) (hL : w * a + w ≤ L) (hL' : w * b + w ≤ L) (hLL : L < 1000) (hw : w ≤ 60) (hab : a ≠ b) : ∀ n k M, k ≤ w → w < n + k → ∃ M', f_X11_copyRow_3 n M q (nI w) (nI a) (nI b) (nI k) = some M' ∧ OnlyK (fun x j => x = q ∧ w * b + k ≤ j ∧ j < w * b + w) M M' ∧ ∀ j, k ≤ j → j < w → gI M' q (w * b + j) = gI M q (w * a + j) := by
  intro n
  induction n with
  | zero => intro k M h1 h2; omega
  | succ n ih =>
    intro k M h1 h2
    show ∃ M', s_X11_copyRow_3 (f_X11_copyRow_3 n) M q (nI w) (nI a) (nI b) (nI k) = some M' ∧ _
    unfold s_X11_copyRow_3
    by_cases hk : k = w
    · rw [if_pos (by rw [hk]; exact nI_le (Nat.le_refl _) (by omega))]
      exact ⟨M, rfl, OnlyK.rf, fun j h1 h2 => by omega⟩
    have hx : w * b + w ≤ w * a ∨ w * a + w ≤ w * b := by
      rcases Nat.lt_or_gt_of_ne hab with z | z
      · right
        have := Nat.mul_le_mul_left w (show a + 1 ≤ b by omega)
        rw [Nat.mul_add, Nat.mul_one] at this
        exact this
      · left
        have := Nat.mul_le_mul_left w (show b + 1 ≤ a by omega)
        rw [Nat.mul_add, Nat.mul_one] at this
        exact this
    rw [if_neg (nI_ge (by omega) (by omega)), pk_mul, nI_add, aB_t (w * a + k) hs rfl (by omega) (by omega), gd_t, nx_t, nI_clamp (by omega), pk_mul, nI_add, aB_t (w * b + k) hs rfl (by omega) (by omega), gd_t, nx_t, nI_clamp (by omega), nI_1]
    obtain ⟨M', e1, e2, e3⟩ := ih (k + 1) (sI M q (w * b + k) (gI M q (w * a + k))) (by omega) (by omega)
    have hO : OnlyK (fun x j => x = q ∧ w * b + k ≤ j ∧ j < w * b + w) M (sI M q (w * b + k) (gI M q (w * a + k))) := OnlyK.rf.I (by omega)
    refine ⟨M', e1, hO.tr (e2.mono (fun x j z => by omega)), fun j h3 h4 => ?_⟩
    by_cases hj : j = k
    · rw [e2.2 q (w * b + j) (by omega), gI_sI, if_pos (by omega), hj]
    · rw [e3 j (by omega) h4, gI_sI, if_neg (by omega)]
def slR (b x j : Nat) : Prop := ∃ w, (x, w) ∈ cpL' ∧ w * b ≤ j ∧ j < w * b + w
theorem copyMarket_eq {M : Mem} {a b : Nat} {x y : Int32} (hR : RR M) (ha : a ≤ 4) (hb : b ≤ 4) (hab : a ≠ b) (hx : x = nI a) (hy : y = nI b) : ∃ M', f_X11_copyMarket M 0 x y = some M' ∧ OnlyK (slR b) M M' ∧ ∀ q w, (q, w) ∈ cpL' → ∀ k, k < w → gI M' q (w * b + k) = gI M q (w * a + k) := by
  subst hx
  subst hy
  have st : ∀ q w L M, (q, w) ∈ cpL' → shR q = (100, L) → 5 * w ≤ L → L < 1000 → RR M → ∃ M', f_X11_copyRow M q (nI w) (nI a) (nI b) = some M' ∧ RR M' ∧ OnlyK (fun x j => x = q ∧ w * b ≤ j ∧ j < w * b + w) M M' ∧ ∀ j, j < w → gI M' q (w * b + j) = gI M q (w * a + j) := by
    intro q w L M hq hs hL hLL hR
    have e1 : w * a + w ≤ 5 * w := by
      have := Nat.mul_le_mul_left w (show a + 1 ≤ 5 by omega)
      rw [Nat.mul_add, Nat.mul_one] at this
      omega
    have e2 : w * b + w ≤ 5 * w := by
      have := Nat.mul_le_mul_left w (show b + 1 ≤ 5 by omega)
      rw [Nat.mul_add, Nat.mul_one] at this
      omega
    have hw : w ≤ 60 := by rcases cpL_or hq with z | z | z | z | z | z | z <;> omega
    obtain ⟨M', f1, f2, f3⟩ := copyRow_eq hs (by omega) (by omega) hLL hw hab FU 0 M (by omega) (by unfold FU; omega)
    exact ⟨M', f1, f2.RR hR, f2.mono (fun x j z => by omega), fun j hj => f3 j (by omega) hj⟩
  obtain ⟨M1, a1, r1, o1, c1⟩ := st 6 1 5 M (by decide) zR_6 (by decide) (by decide) hR
  obtain ⟨M2, a2, r2, o2, c2⟩ := st 7 6 30 M1 (by decide) zR_7 (by decide) (by decide) r1
  obtain ⟨M3, a3, r3, o3, c3⟩ := st 8 6 30 M2 (by decide) zR_8 (by decide) (by decide) r2
  obtain ⟨M4, a4, r4, o4, c4⟩ := st 9 56 280 M3 (by decide) zR_9 (by decide) (by decide) r3
  obtain ⟨M5, a5, r5, o5, c5⟩ := st 10 24 120 M4 (by decide) zR_10 (by decide) (by decide) r4
  obtain ⟨M6, a6, r6, o6, c6⟩ := st 11 54 270 M5 (by decide) zR_11 (by decide) (by decide) r5
  obtain ⟨M7, a7, r7, o7, c7⟩ := st 12 12 60 M6 (by decide) zR_12 (by decide) (by decide) r6
  have mo : ∀ {M M' : Mem} {q w : Nat}, (q, w) ∈ cpL' → OnlyK (fun x j => x = q ∧ w * b ≤ j ∧ j < w * b + w) M M' → OnlyK (slR b) M M' := fun hq h => h.mono (fun x j z => ⟨_, by rw [z.1]; exact hq, z.2.1, z.2.2⟩)
  refine ⟨M7, ?_, ((((((mo (by decide) o1).tr (mo (by decide) o2)).tr (mo (by decide) o3)).tr (mo (by decide) o4)).tr (mo (by decide) o5)).tr (mo (by decide) o6)).tr (mo (by decide) o7), fun q w hq k hk => ?_⟩
  · unfold f_X11_copyMarket
    rw [oR, gd_t, rr_16 hR, bd_t, show (1 : Int32) = nI 1 from rfl, a1, bd_t, rr_17 r1, bd_t, show (6 : Int32) = nI 6 from rfl, a2, bd_t, rr_18 r2, bd_t, a3, bd_t, rr_19 r3, bd_t, show (56 : Int32) = nI 56 from rfl, a4, bd_t, rr_20 r4, bd_t, show (24 : Int32) = nI 24 from rfl, a5, bd_t, rr_21 r5, bd_t, show (54 : Int32) = nI 54 from rfl, a6, bd_t, rr_22 r6, bd_t, show (12 : Int32) = nI 12 from rfl, a7, bd_t]
  · rcases cpL_or hq with ⟨rfl, rfl⟩ | ⟨rfl, rfl⟩ | ⟨rfl, rfl⟩ | ⟨rfl, rfl⟩ | ⟨rfl, rfl⟩ | ⟨rfl, rfl⟩ | ⟨rfl, rfl⟩
    · rw [o7.2 _ _ (by omega), o6.2 _ _ (by omega), o5.2 _ _ (by omega), o4.2 _ _ (by omega), o3.2 _ _ (by omega), o2.2 _ _ (by omega)]
      exact c1 k hk
    · rw [o7.2 _ _ (by omega), o6.2 _ _ (by omega), o5.2 _ _ (by omega), o4.2 _ _ (by omega), o3.2 _ _ (by omega), c2 k hk, o1.2 _ _ (by omega)]
    · rw [o7.2 _ _ (by omega), o6.2 _ _ (by omega), o5.2 _ _ (by omega), o4.2 _ _ (by omega), c3 k hk, o2.2 _ _ (by omega), o1.2 _ _ (by omega)]
    · rw [o7.2 _ _ (by omega), o6.2 _ _ (by omega), o5.2 _ _ (by omega), c4 k hk, o3.2 _ _ (by omega), o2.2 _ _ (by omega), o1.2 _ _ (by omega)]
    · rw [o7.2 _ _ (by omega), o6.2 _ _ (by omega), c5 k hk, o4.2 _ _ (by omega), o3.2 _ _ (by omega), o2.2 _ _ (by omega), o1.2 _ _ (by omega)]
    · rw [o7.2 _ _ (by omega), c6 k hk, o5.2 _ _ (by omega), o4.2 _ _ (by omega), o3.2 _ _ (by omega), o2.2 _ _ (by omega), o1.2 _ _ (by omega)]
    · rw [c7 k hk, o6.2 _ _ (by omega), o5.2 _ _ (by omega), o4.2 _ _ (by omega), o3.2 _ _ (by omega), o2.2 _ _ (by omega), o1.2 _ _ (by omega)]
/-! what lasts, piece by piece -/
theorem slR_ne {a b q w k : Nat} (hab : a ≠ b) (hq : (q, w) ∈ cpL') (hk : k < w) : ¬ slR b q (w * a + k) := by
  rintro ⟨w', h1, h2, h3⟩
  have hw : w' = w := by
    rcases cpL_or h1 with z | z | z | z | z | z | z <;> rcases cpL_or hq with y | y | y | y | y | y | y <;> omega
  subst hw
  rcases Nat.lt_or_gt_of_ne hab with z | z
  · have := Nat.mul_le_mul_left w' (show a + 1 ≤ b by omega)
    rw [Nat.mul_add, Nat.mul_one] at this
    omega
  · have := Nat.mul_le_mul_left w' (show b + 1 ≤ a by omega)
    rw [Nat.mul_add, Nat.mul_one] at this
    omega
theorem ImgR.keep {M1 M2 M1' M2' : Mem} {j : Nat} (h : ImgR M1 M2 j) (h82 : gI M1' 82 j = gI M1 82 j) (h13 : gI M2' 13 j = gI M2 13 j) (hc : ∀ a, inB (149 + 39 * j) a → (∀ k, gI M1' a k = gI M1 a k) ∧ ∀ k, gL M1' a k = gL M1 a k) (hr : ∀ q w, (q, w) ∈ cpL' → ∀ k, k < w → gI M2' q (w * (1 + j) + k) = gI M2 q (w * (1 + j) + k)) : ImgR M1' M2' j := by
  unfold ImgR
  rw [h82, h13]
  rcases h with h | ⟨g1, g2, D', g3, g4, g5, g6⟩
  · exact Or.inl h
  · exact Or.inr ⟨g1, g2, D', g3, g4, g5.keep g3.n (fun a q1 q2 => hc a ⟨q1, q2⟩), g6.cp g3 hr⟩
theorem RowR.keep {M1 M2 M1' M2' : Mem} {j : Nat} (h : RowR M1 M2 j) (hj : j < 4) (hc : ∀ a, 266 ≤ a → a < 274 → (∀ k, gI M1' a k = gI M1 a k) ∧ ∀ k, gL M1' a k = gL M1 a k) (hr : ∀ a k, a = 1 ∨ a = 2 → gI M2' a k = gI M2 a k) (hl : ∀ k, gL M2' 3 k = gL M2 3 k) : RowR M1' M2' j := by
  unfold RowR
  rw [hr 1 _ (by decide), hr 2 _ (by decide), (hc (266 + 2 * j) (by omega) (by omega)).1, (hc (266 + 2 * j) (by omega) (by omega)).1, (hc (266 + 2 * j) (by omega) (by omega)).1]
  simp only [(hc (267 + 2 * j) (by omega) (by omega)).2, hl]
  exact h
theorem TapeR.keep {M1 M2 M1' M2' : Mem} (h : TapeR M1 M2) (hc : ∀ a k, a = 1 ∨ a = 2 → gI M1' a k = gI M1 a k) (hr : ∀ a k, a = 5 ∨ (a = 0 ∧ (k = 6 ∨ k = 14 ∨ k = 15)) → gI M2' a k = gI M2 a k) : TapeR M1' M2' := by
  unfold TapeR
  simp only [hc 1 _ (by decide), hc 2 _ (by decide), hr 0 6 (by decide), hr 0 14 (by decide), hr 0 15 (by decide), hr 5 _ (Or.inl rfl)]
  exact h
/-- another market in place of the one that stood -/
theorem Rel0.mk' {p d : Nat} {D D' : MK} {M1 M2 M1' M2' : Mem} (h : Rel0 p d D M1 M2) (hc : CR M1') (hr : RR M2') (g1 : gR M1' 0 1 = gR M1 0 1) (g2 : gR M1' 0 2 = gR M1 0 2) (hW : WFD D') (hS : StkIn D') (hC : CM M1' p D') (hR : RM M2' 0 D') (k1 : ∀ a, a = 1 ∨ a = 2 ∨ a = 82 ∨ (149 ≤ a ∧ a < 274) → (∀ k, gI M1' a k = gI M1 a k) ∧ ∀ k, gL M1' a k = gL M1 a k) (k2 : ∀ a k, (a = 1 ∨ a = 2 ∨ a = 5 ∨ a = 13 ∨ (a = 0 ∧ (k = 6 ∨ k = 14 ∨ k = 15))) → gI M2' a k = gI M2 a k) (k3 : ∀ k, gL M2' 3 k = gL M2 3 k) (k4 : ∀ j, j < 3 → ∀ q w, (q, w) ∈ cpL' → ∀ k, k < w → gI M2' q (w * (1 + j) + k) = gI M2 q (w * (1 + j) + k)) : Rel0 p d D' M1' M2' := by
  obtain ⟨a1, a2, a3, a4, a5, a6, a7, a8, a9, a10, a11, a12⟩ := h
  refine ⟨hc, hr, by rw [g1]; exact a3, by rw [g2]; exact a4, a5, hW, hS, hC, hR, fun j hj => ?_, fun j hj => ?_, ?_⟩
  · exact (a10 j hj).keep ((k1 82 (by omega)).1 j) (k2 13 j (by omega)) (fun a z => k1 a (by unfold inB at z; omega)) (k4 j hj)
  · exact (a11 j hj).keep hj (fun a z1 z2 => k1 a (by omega)) (fun a k z => k2 a k (by omega)) k3
  · exact a12.keep (fun a k z => (k1 a (by omega)).1 k) (fun a k z => k2 a k (by omega))
