/-! A BUYER ALONE, as a function. G: tag, place, place. 0 taken (stall, minute), 1 lack (want), 2 stock (stall), 3 chosen in a minute, 4 chosen, 5 spent -/
abbrev Cc : Type := Option (Nat × Nat × Nat)
def avO (D : MK) (b : Nat) (G : HS) (m s : Nat) : Option Nat := if G 0 s m = 0 ∧ kPl D s m = kBy D b 0 then (match kWo D b (kSl D s 2) with | none => none | some w => if G 1 w 0 = 0 ∨ G 2 s 0 = 0 ∨ kWt D b w 2 < qpS D s m then none else some (qpS D s m)) else none
def fnI (D : MK) (b : Nat) (G : HS) (m s : Nat) (c : Cc) : Cc := match avO D b G m s with
  | none => c
  | some q => match c with
    | none => some (s, m, q)
    | some x => if q < x.2.2 then some (s, m, q) else some x
def fnO (D : MK) (b : Nat) (G : HS) (m : Nat) (c : Cc) : Cc := foS (fnI D b G m) (kNs D) 0 c
def fnA (D : MK) (b : Nat) (G : HS) : Cc := foS (fnO D b G) (kMi D) 0 none
def wIx (D : MK) (b s : Nat) : Nat := (kWo D b (kSl D s 2)).getD 0
def tkG (D : MK) (b : Nat) (x : Nat × Nat × Nat) (G : HS) : HS := fun t i j =>
  if t = 0 ∧ i = x.1 ∧ j = x.2.1 then 1 else if t = 1 ∧ i = wIx D b x.1 then G 1 i 0 - 1 else if t = 2 ∧ i = x.1 then G 2 i 0 - 1 else if t = 3 ∧ i = x.2.1 then G 3 i 0 + 1 else if t = 4 then G 4 0 0 + 1 else if t = 5 then G 5 0 0 + x.2.2 else G t i j
def chL (D : MK) (b C : Nat) : Nat → HS → HS
  | 0, G => G
  | n + 1, G => match fnA D b G with
    | none => G
    | some x => if C < G 5 0 0 + x.2.2 then G else chL D b C n (tkG D b x G)
def tkn (G : HS) (s : Nat) : Nat → Nat
  | 0 => 0
  | m + 1 => tkn G s m + if G 0 s m = 1 then 1 else 0
def lkA (G : HS) : Nat → Nat
  | 0 => 0
  | w + 1 => lkA G w + G 1 w 0
def wnS (D : MK) (b : Nat) : Nat → Nat
  | 0 => 0
  | w + 1 => wnS D b w + kWt D b w 1
def g0A (D : MK) (b : Nat) : HS := fun t i _ => if t = 1 then (if i < kBy D b 3 then kWt D b i 1 else 0) else if t = 2 then kSl D i 3 else 0
def IvA (D : MK) (b : Nat) (G : HS) : Prop := (∀ s, s < kNs D → (∀ m, G 0 s m ≤ 1) ∧ tkn G s 64 + G 2 s 0 = kSl D s 3) ∧ (∀ w, w < kBy D b 3 → G 1 w 0 ≤ 9) ∧ lkA G (kBy D b 3) + G 4 0 0 = wnS D b (kBy D b 3) ∧ G 5 0 0 ≤ 99 * G 4 0 0
theorem foS_inv {σ : Type} {g : Nat → σ → σ} {P : σ → Prop} : ∀ n k c, (∀ i x, k ≤ i → i < k + n → P x → P (g i x)) → P c → P (foS g n k c)
  | 0, _, _, _, h => h
  | n + 1, k, c, hs, h => foS_inv n (k + 1) (g k c) (fun i x h1 h2 => hs i x (by omega) (by omega)) (hs k c (by omega) (by omega) h)
section AV
variable {D : MK} {b : Nat} {G : HS}
theorem avO_some {m s q : Nat} (h : avO D b G m s = some q) : G 0 s m = 0 ∧ kPl D s m = kBy D b 0 ∧ q = qpS D s m ∧ kWo D b (kSl D s 2) = some (wIx D b s) ∧ G 1 (wIx D b s) 0 ≠ 0 ∧ G 2 s 0 ≠ 0 ∧ qpS D s m ≤ kWt D b (wIx D b s) 2 := by
  unfold avO at h
  by_cases c : G 0 s m = 0 ∧ kPl D s m = kBy D b 0
  case' neg => rw [if_neg c] at h; cases h
  rw [if_pos c] at h
  unfold wIx
  cases hw : kWo D b (kSl D s 2) with
  | none => rw [hw] at h; cases h
  | some w =>
    rw [hw] at h
    dsimp only at h
    by_cases c2 : G 1 w 0 = 0 ∨ G 2 s 0 = 0 ∨ kWt D b w 2 < qpS D s m
    · rw [if_pos c2] at h; cases h
    · rw [if_neg c2] at h
      cases h
      refine ⟨c.1, c.2, rfl, rfl, fun z => c2 (Or.inl z), fun z => c2 (Or.inr (Or.inl z)), ?_⟩
      show qpS D s m ≤ kWt D b w 2
      omega
def OkC (D : MK) (b : Nat) (G : HS) (c : Cc) : Prop := ∀ x, c = some x → avO D b G x.2.1 x.1 = some x.2.2 ∧ x.1 < kNs D ∧ x.2.1 < kMi D
theorem fnI_ok {m s : Nat} (hs : s < kNs D) (hm : m < kMi D) {c : Cc} (h : OkC D b G c) : OkC D b G (fnI D b G m s c) := by
  unfold fnI
  cases e : avO D b G m s with
  | none => exact h
  | some q =>
    dsimp only
    cases c with
    | none =>
      intro x hx
      cases hx
      exact ⟨e, hs, hm⟩
    | some y =>
      dsimp only
      split
      · intro x hx
        cases hx
        exact ⟨e, hs, hm⟩
      · exact h
theorem fnO_ok {m : Nat} (hm : m < kMi D) {c : Cc} (h : OkC D b G c) : OkC D b G (fnO D b G m c) :=
  foS_inv _ _ _ (fun i x h1 h2 hx => fnI_ok (by omega) hm hx) h
theorem fnA_ok : OkC D b G (fnA D b G) :=
  foS_inv _ _ _ (fun i x h1 h2 hx => fnO_ok (by omega) hx) (fun x hx => by cases hx)
theorem fnA_none (h : ∀ m s, avO D b G m s = none) : fnA D b G = none := by
  have e : ∀ m s c, fnI D b G m s c = c := fun m s c => by
    unfold fnI
    rw [h m s]
  have e2 : ∀ m c, c = none → fnO D b G m c = none := fun m c hc => foS_inv (P := fun c => c = none) _ _ _ (fun i x _ _ hx => by rw [e, hx]) hc
  exact foS_inv (P := fun c => c = none) _ _ _ (fun i x _ _ hx => e2 i x hx) rfl
theorem lkA_pos : ∀ {n w : Nat}, w < n → G 1 w 0 ≤ lkA G n
  | 0, w, h => by omega
  | n + 1, w, h => by
    unfold lkA
    by_cases e : w = n
    · subst e; omega
    · have := lkA_pos (n := n) (w := w) (by omega)
      omega
theorem lkA_dec {G' : HS} {v : Nat} (h1 : ∀ w, w ≠ v → G' 1 w 0 = G 1 w 0) (h2 : G' 1 v 0 + 1 = G 1 v 0) : ∀ n, (v < n → lkA G' n + 1 = lkA G n) ∧ (n ≤ v → lkA G' n = lkA G n)
  | 0 => ⟨fun h => by omega, fun _ => rfl⟩
  | n + 1 => by
    have ih := lkA_dec h1 h2 n
    unfold lkA
    by_cases e : v = n
    · subst e
      exact ⟨fun _ => by have := ih.2 (Nat.le_refl _); omega, fun h => by omega⟩
    · rw [h1 n (fun z => e z.symm)]
      exact ⟨fun h => by have := ih.1 (by omega); omega, fun h => by have := ih.2 (by omega); omega⟩
theorem tkn_inc {G' : HS} {s m : Nat} (h1 : ∀ j, j ≠ m → G' 0 s j = G 0 s j) (h2 : G' 0 s m = 1) (h3 : G 0 s m = 0) : ∀ n, (m < n → tkn G' s n = tkn G s n + 1) ∧ (n ≤ m → tkn G' s n = tkn G s n)
  | 0 => ⟨fun h => by omega, fun _ => rfl⟩
  | n + 1 => by
    have ih := tkn_inc h1 h2 h3 n
    unfold tkn
    by_cases e : m = n
    · subst e
      rw [h2, h3]
      exact ⟨fun _ => by have := ih.2 (Nat.le_refl _); simp; omega, fun h => by omega⟩
    · rw [h1 n (fun z => e z.symm)]
      exact ⟨fun h => by have := ih.1 (by omega); omega, fun h => by have := ih.2 (by omega); omega⟩
theorem tkn_same {G' : HS} {s : Nat} (h1 : ∀ j, G' 0 s j = G 0 s j) : ∀ n, tkn G' s n = tkn G s n
  | 0 => rfl
  | n + 1 => by
    unfold tkn
    rw [tkn_same h1 n, h1]
section TKT
variable {x : Nat × Nat × Nat}
theorem tk0 {s m : Nat} : tkG D b x G 0 s m = if s = x.1 ∧ m = x.2.1 then 1 else G 0 s m := by
  unfold tkG
  by_cases e : s = x.1 ∧ m = x.2.1
  · rw [if_pos ⟨rfl, e⟩, if_pos e]
  · rw [if_neg (fun z => e z.2), if_neg e]
    simp
theorem tk1 {w : Nat} : tkG D b x G 1 w 0 = if w = wIx D b x.1 then G 1 w 0 - 1 else G 1 w 0 := by
  unfold tkG
  by_cases e : w = wIx D b x.1
  · simp [e]
  · simp [e]
theorem tk2 {s : Nat} : tkG D b x G 2 s 0 = if s = x.1 then G 2 s 0 - 1 else G 2 s 0 := by
  unfold tkG
  by_cases e : s = x.1
  · simp [e]
  · simp [e]
theorem tk3 {m : Nat} : tkG D b x G 3 m 0 = if m = x.2.1 then G 3 m 0 + 1 else G 3 m 0 := by
  unfold tkG
  by_cases e : m = x.2.1
  · simp [e]
  · simp [e]
theorem tk4 : tkG D b x G 4 0 0 = G 4 0 0 + 1 := by
  unfold tkG
  simp
theorem tk5 : tkG D b x G 5 0 0 = G 5 0 0 + x.2.2 := by
  unfold tkG
  simp
end TKT
theorem lk_tk {x : Nat × Nat × Nat} (hA : avO D b G x.2.1 x.1 = some x.2.2) : lkA (tkG D b x G) (kBy D b 3) + 1 = lkA G (kBy D b 3) := by
  obtain ⟨a1, a2, a3, a4, a5, a6, a7⟩ := avO_some hA
  refine (lkA_dec (G := G) (v := wIx D b x.1) (fun w hw => ?_) ?_ _).1 (kWo_lt a4).1
  · rw [tk1, if_neg hw]
  · rw [tk1, if_pos rfl]
    omega
theorem IvA.tk (h : IvA D b G) (hW : WFD D) {x : Nat × Nat × Nat} (hA : avO D b G x.2.1 x.1 = some x.2.2) (hs : x.1 < kNs D) (hm : x.2.1 < kMi D) (hq : x.2.2 ≤ 99) : IvA D b (tkG D b x G) := by
  have hMi := hW.mi
  have hl := lk_tk hA
  obtain ⟨a1, a2, a3, a4, a5, a6, a7⟩ := avO_some hA
  obtain ⟨b1, b2, b3, b4⟩ := h
  refine ⟨fun s hs' => ⟨fun m => ?_, ?_⟩, fun w hw => ?_, ?_, ?_⟩
  · rw [tk0]
    split
    · exact Nat.le_refl _
    · exact (b1 s hs').1 m
  · have q := (b1 s hs').2
    rw [tk2]
    by_cases e : s = x.1
    · subst e
      have t := (tkn_inc (G := G) (G' := tkG D b x G) (s := x.1) (m := x.2.1) (fun j hj => by rw [tk0, if_neg (fun z => hj z.2)]) (by rw [tk0, if_pos ⟨rfl, rfl⟩]) a1 64).1 (by omega)
      rw [t, if_pos rfl]
      omega
    · rw [if_neg e, tkn_same (fun j => by rw [tk0, if_neg (fun z => e z.1)])]
      exact q
  · have := b2 w hw
    rw [tk1]
    split <;> omega
  · rw [tk4]
    omega
  · rw [tk4, tk5]
    omega
theorem wn_le (hW : WFD D) (hb : b < kNb D) : ∀ n, n ≤ kBy D b 3 → wnS D b n ≤ 9 * n
  | 0, _ => Nat.le_refl _
  | n + 1, h => by
    have := wn_le hW hb n (by omega)
    have := (hW.2.2.2.2.2.2 b hb).2.2.2.2.1 n (by omega)
    unfold wnS
    omega
theorem IvA.g0 (hW : WFD D) (hb : b < kNb D) : IvA D b (g0A D b) := by
  have hw := (hW.2.2.2.2.2.2 b hb).2.2.2.2.1
  have e2 : ∀ n, n ≤ kBy D b 3 → lkA (g0A D b) n = wnS D b n := by
    intro n
    induction n with
    | zero => intro _; rfl
    | succ n ih =>
      intro hn
      unfold lkA wnS
      rw [ih (by omega)]
      show _ + (if n < kBy D b 3 then kWt D b n 1 else 0) = _
      rw [if_pos (by omega)]
  refine ⟨fun s _ => ⟨fun m => Nat.zero_le _, ?_⟩, fun w hw' => ?_, ?_, Nat.zero_le _⟩
  · have e : ∀ n, tkn (g0A D b) s n = 0 := by
      intro n
      induction n with
      | zero => rfl
      | succ n ih =>
        unfold tkn
        rw [ih]
        rfl
    rw [e]
    show 0 + kSl D s 3 = _
    omega
  · show (if w < kBy D b 3 then kWt D b w 1 else 0) ≤ 9
    rw [if_pos hw']
    exact (hw w hw').2.2.1
  · rw [e2 _ (Nat.le_refl _)]
    rfl
end AV
theorem memfold2 {σ τ : Type} {F : Nat → Mem → σ → Int32 → τ} {g : Nat → σ → σ} {N : Nat} {R : Mem → σ → τ} {I : Mem → σ → Prop} (step : ∀ n M c k, k < N → I M c → ∃ M', I M' (g k c) ∧ F (n + 1) M c (nI k) = F n M' (g k c) (nI (k + 1))) (stop : ∀ n M c, I M c → F (n + 1) M c (nI N) = R M c) : ∀ n M c k, k ≤ N → N < n + k → I M c → ∃ M', I M' (foS g (N - k) k c) ∧ F n M c (nI k) = R M' (foS g (N - k) k c) := by
  intro n
  induction n with
  | zero => intro M c k h1 h2; omega
  | succ n ih =>
    intro M c k h1 h2 hI
    by_cases hk : k = N
    · subst hk
      rw [Nat.sub_self]
      exact ⟨M, hI, stop n M c hI⟩
    · obtain ⟨M', a1, a2⟩ := step n M c k (by omega) hI
      obtain ⟨M'', b1, b2⟩ := ih M' (g k c) (k + 1) (by omega) (by omega) a1
      obtain ⟨y, hy⟩ : ∃ y, N - k = y + 1 := ⟨N - k - 1, by omega⟩
      rw [show N - (k + 1) = y by omega] at b1 b2
      rw [hy, a2]
      exact ⟨M'', b1, b2⟩
