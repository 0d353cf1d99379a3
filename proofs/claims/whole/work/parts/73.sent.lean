/-! SENT BY STALLS, as numbers: sT D f m0 n p is the least minute in which a pear from f is at p by n stalls at most (1000000: never) -/
section SE
variable {D : MK} {f m0 : Nat}
theorem bz_0 {p : Nat} : ∀ n, bzN D p n = 0 ↔ ∀ b, b < n → kBy D b 0 ≠ p
  | 0 => ⟨fun _ b h => by omega, fun _ => rfl⟩
  | n + 1 => by
    unfold bzN
    have hp : 0 < 2 ^ n := Nat.two_pow_pos n
    constructor
    · intro h b hb e
      by_cases c : b = n
      · subst c
        rw [if_pos e] at h
        omega
      · exact (bz_0 n).mp (by omega) b (by omega) e
    · intro h
      rw [(bz_0 n).mpr (fun b hb => h b (by omega)), if_neg (h n (by omega))]
def hoB (D : MK) (p : Nat) : Bool := decide (bzN D p (kNb D) ≠ 0)
theorem hoB_iff {p : Nat} : hoB D p = true ↔ ∃ b, b < kNb D ∧ kBy D b 0 = p := by
  unfold hoB
  rw [decide_eq_true_iff]
  constructor
  · intro h
    exact Classical.byContradiction (fun z => h ((bz_0 _).mpr (fun b hb e => z ⟨b, hb, e⟩)))
  · rintro ⟨b, hb, e⟩ h
    exact (bz_0 _).mp h b hb e
def okB (D : MK) (f p : Nat) : Bool := decide (p = f) || hoB D p
def upT (q v : Nat) (T : Nat → Nat) : Nat → Nat := fun r => if r = q ∧ v < T r then v else T r
def rdT (D : MK) (s m1 : Nat) (T : Nat → Nat) : Nat → Nat := foS (fun m2 T => upT (kPl D s m2) m2 T) (kMi D - (m1 + 1)) (m1 + 1) T
def slT (D : MK) (p m1 : Nat) (T : Nat → Nat) : Nat → Nat := foS (fun s T => if kPl D s m1 = p then rdT D s m1 T else T) (kNs D) 0 T
def plT (D : MK) (p v : Nat) (T : Nat → Nat) : Nat → Nat := foS (fun m1 T => slT D p m1 T) (kMi D - v) v T
def goP (D : MK) (f : Nat) (T0 : Nat → Nat) (p : Nat) (T : Nat → Nat) : Nat → Nat := if T0 p = 1000000 ∨ okB D f p = false then T else plT D p (T0 p) T
def goT (D : MK) (f : Nat) (T0 : Nat → Nat) : Nat → Nat := foS (goP D f T0) (kP D) 0 T0
def sT (D : MK) (f m0 : Nat) : Nat → Nat → Nat
  | 0 => fun p => if p = f then m0 else 1000000
  | n + 1 => goT D f (sT D f m0 n)
/-- by n stalls at most he has laid it on the stall s ahead of the minute m -/
def Ll (D : MK) (f m0 n s m : Nat) : Prop := ∃ m1, m1 < m ∧ okB D f (kPl D s m1) = true ∧ sT D f m0 n (kPl D s m1) ≤ m1
theorem foS_or {σ : Type} {g : Nat → σ → σ} {L : σ → Prop} {E : Nat → Prop} (h : ∀ i c, L (g i c) ↔ L c ∨ E i) : ∀ n k c, L (foS g n k c) ↔ L c ∨ ∃ i, k ≤ i ∧ i < k + n ∧ E i
  | 0, k, c => ⟨fun z => Or.inl z, fun z => z.elim id (fun ⟨i, a, b, _⟩ => by omega)⟩
  | n + 1, k, c => by
    show L (foS g n (k + 1) (g k c)) ↔ _
    rw [foS_or h n (k + 1) (g k c), h k c]
    constructor
    · rintro ((z | z) | ⟨i, a, b, e⟩)
      · exact Or.inl z
      · exact Or.inr ⟨k, by omega, by omega, z⟩
      · exact Or.inr ⟨i, by omega, by omega, e⟩
    · rintro (z | ⟨i, a, b, e⟩)
      · exact Or.inl (Or.inl z)
      · by_cases q : i = k
        · subst q
          exact Or.inl (Or.inr e)
        · exact Or.inr ⟨i, by omega, by omega, e⟩
theorem upT_le {q v r x : Nat} {T : Nat → Nat} : upT q v T r ≤ x ↔ T r ≤ x ∨ (r = q ∧ v ≤ x) := by
  unfold upT
  by_cases c : r = q ∧ v < T r
  · rw [if_pos c]
    constructor
    · exact fun z => Or.inr ⟨c.1, z⟩
    · rintro (z | z)
      · omega
      · exact z.2
  · rw [if_neg c]
    constructor
    · exact fun z => Or.inl z
    · rintro (z | z)
      · exact z
      · have : ¬ v < T r := fun y => c ⟨z.1, y⟩
        omega
theorem rdT_le {s m1 r x : Nat} {T : Nat → Nat} : rdT D s m1 T r ≤ x ↔ T r ≤ x ∨ ∃ m2, m1 < m2 ∧ m2 < kMi D ∧ kPl D s m2 = r ∧ m2 ≤ x := by
  unfold rdT
  rw [foS_or (L := fun T : Nat → Nat => T r ≤ x) (E := fun m2 => r = kPl D s m2 ∧ m2 ≤ x) (fun i c => upT_le)]
  constructor
  · rintro (z | ⟨i, a, b, e, e2⟩)
    · exact Or.inl z
    · exact Or.inr ⟨i, by omega, by omega, e.symm, e2⟩
  · rintro (z | ⟨i, a, b, e, e2⟩)
    · exact Or.inl z
    · exact Or.inr ⟨i, by omega, by omega, e.symm, e2⟩
theorem slT_le {p m1 r x : Nat} {T : Nat → Nat} : slT D p m1 T r ≤ x ↔ T r ≤ x ∨ ∃ s, s < kNs D ∧ kPl D s m1 = p ∧ ∃ m2, m1 < m2 ∧ m2 < kMi D ∧ kPl D s m2 = r ∧ m2 ≤ x := by
  unfold slT
  rw [foS_or (L := fun T : Nat → Nat => T r ≤ x) (E := fun s => kPl D s m1 = p ∧ ∃ m2, m1 < m2 ∧ m2 < kMi D ∧ kPl D s m2 = r ∧ m2 ≤ x) (fun s c => by
    by_cases e : kPl D s m1 = p
    · rw [if_pos e, rdT_le]
      exact ⟨fun z => z.elim Or.inl (fun y => Or.inr ⟨e, y⟩), fun z => z.elim Or.inl (fun y => Or.inr y.2)⟩
    · rw [if_neg e]
      exact ⟨Or.inl, fun z => z.elim id (fun y => absurd y.1 e)⟩)]
  constructor
  · rintro (z | ⟨i, a, b, e⟩)
    · exact Or.inl z
    · exact Or.inr ⟨i, by omega, e⟩
  · rintro (z | ⟨i, a, e⟩)
    · exact Or.inl z
    · exact Or.inr ⟨i, by omega, by omega, e⟩
theorem plT_le {p v r x : Nat} {T : Nat → Nat} : plT D p v T r ≤ x ↔ T r ≤ x ∨ ∃ m1, v ≤ m1 ∧ m1 < kMi D ∧ ∃ s, s < kNs D ∧ kPl D s m1 = p ∧ ∃ m2, m1 < m2 ∧ m2 < kMi D ∧ kPl D s m2 = r ∧ m2 ≤ x := by
  unfold plT
  rw [foS_or (L := fun T : Nat → Nat => T r ≤ x) (E := fun m1 => ∃ s, s < kNs D ∧ kPl D s m1 = p ∧ ∃ m2, m1 < m2 ∧ m2 < kMi D ∧ kPl D s m2 = r ∧ m2 ≤ x) (fun s c => slT_le)]
  constructor
  · rintro (z | ⟨i, a, b, e⟩)
    · exact Or.inl z
    · exact Or.inr ⟨i, a, by omega, e⟩
  · rintro (z | ⟨i, a, b, e⟩)
    · exact Or.inl z
    · exact Or.inr ⟨i, a, by omega, e⟩
theorem goT_le {r x : Nat} {T : Nat → Nat} : goT D f T r ≤ x ↔ T r ≤ x ∨ ∃ p, p < kP D ∧ (T p ≠ 1000000 ∧ okB D f p = true) ∧ ∃ m1, T p ≤ m1 ∧ m1 < kMi D ∧ ∃ s, s < kNs D ∧ kPl D s m1 = p ∧ ∃ m2, m1 < m2 ∧ m2 < kMi D ∧ kPl D s m2 = r ∧ m2 ≤ x := by
  unfold goT
  rw [foS_or (L := fun T : Nat → Nat => T r ≤ x) (E := fun p => (T p ≠ 1000000 ∧ okB D f p = true) ∧ ∃ m1, T p ≤ m1 ∧ m1 < kMi D ∧ ∃ s, s < kNs D ∧ kPl D s m1 = p ∧ ∃ m2, m1 < m2 ∧ m2 < kMi D ∧ kPl D s m2 = r ∧ m2 ≤ x) (fun p c => by
    unfold goP
    by_cases e : T p = 1000000 ∨ okB D f p = false
    · rw [if_pos e]
      refine ⟨Or.inl, fun z => z.elim id (fun y => ?_)⟩
      rcases e with e | e
      · exact absurd e y.1.1
      · rw [e] at y
        exact absurd y.1.2 (by decide)
    · rw [if_neg e, plT_le]
      have e' : T p ≠ 1000000 ∧ okB D f p = true := ⟨fun z => e (Or.inl z), by
        cases h : okB D f p with
        | true => rfl
        | false => exact absurd (Or.inr h) e⟩
      exact ⟨fun z => z.elim Or.inl (fun y => Or.inr ⟨e', y⟩), fun z => z.elim Or.inl (fun y => Or.inr y.2)⟩)]
  constructor
  · rintro (z | ⟨i, a, b, e⟩)
    · exact Or.inl z
    · exact Or.inr ⟨i, by omega, e⟩
  · rintro (z | ⟨i, a, e⟩)
    · exact Or.inl z
    · exact Or.inr ⟨i, by omega, by omega, e⟩
section QQ
variable (hP : 0 < kP D) (hM : kMi D ≤ 60)
theorem sT_succ (hP : 0 < kP D) (hM : kMi D ≤ 60) {n q x : Nat} : sT D f m0 (n + 1) q ≤ x ↔ sT D f m0 n q ≤ x ∨ ∃ s m2, s < kNs D ∧ m2 ≤ x ∧ m2 < kMi D ∧ kPl D s m2 = q ∧ Ll D f m0 n s m2 := by
  show goT D f (sT D f m0 n) q ≤ x ↔ _
  rw [goT_le]
  constructor
  · rintro (z | ⟨p, hp, ⟨p1, p2⟩, m1, a1, a2, s, s1, s2, m2, b1, b2, b3, b4⟩)
    · exact Or.inl z
    · subst s2
      exact Or.inr ⟨s, m2, s1, b4, b2, b3, m1, b1, p2, a1⟩
  · rintro (z | ⟨s, m2, s1, b4, b2, b3, m1, b1, p2, a1⟩)
    · exact Or.inl z
    · exact Or.inr ⟨kPl D s m1, kPl_lt hP s m1, ⟨by omega, p2⟩, m1, a1, by omega, s, s1, rfl, m2, b1, b2, b3, b4⟩
theorem sT_mono1 (hP : 0 < kP D) (hM : kMi D ≤ 60) {n q : Nat} : sT D f m0 (n + 1) q ≤ sT D f m0 n q := (sT_succ hP hM).mpr (Or.inl (Nat.le_refl _))
theorem sT_mono (hP : 0 < kP D) (hM : kMi D ≤ 60) {q : Nat} : ∀ d n, sT D f m0 (n + d) q ≤ sT D f m0 n q
  | 0, _ => Nat.le_refl _
  | d + 1, n => Nat.le_trans (sT_mono1 hP hM (n := n + d)) (sT_mono hP hM d n)
theorem sT_val (hP : 0 < kP D) (hM : kMi D ≤ 60) (h0 : m0 < kMi D) {q : Nat} : ∀ n, sT D f m0 n q < kMi D ∨ sT D f m0 n q = 1000000
  | 0 => by
    show (if q = f then m0 else 1000000) < kMi D ∨ _
    by_cases e : q = f
    · rw [if_pos e]; exact Or.inl h0
    · right
      show (if q = f then m0 else 1000000) = _
      rw [if_neg e]
  | n + 1 => by
    rcases (sT_succ (f := f) (m0 := m0) hP hM (n := n) (q := q)).mp (Nat.le_refl _) with z | ⟨s, m2, s1, b4, b2, b3, b5⟩
    · have := sT_mono1 (f := f) (m0 := m0) hP hM (n := n) (q := q)
      rw [show sT D f m0 (n + 1) q = sT D f m0 n q by omega]
      exact sT_val hP hM h0 n
    · have := (sT_succ (f := f) (m0 := m0) hP hM (n := n) (q := q) (x := m2)).mpr (Or.inr ⟨s, m2, s1, Nat.le_refl _, b2, b3, b5⟩)
      omega
theorem sT_low (hP : 0 < kP D) (hM : kMi D ≤ 60) (h0 : m0 < kMi D) : ∀ n q x, sT D f m0 n q ≤ x → m0 ≤ x
  | 0, q, x, h => by
    have h : (if q = f then m0 else 1000000) ≤ x := h
    by_cases e : q = f
    · rw [if_pos e] at h; exact h
    · rw [if_neg e] at h; omega
  | n + 1, q, x, h => by
    rcases (sT_succ hP hM).mp h with z | ⟨s, m2, s1, b4, b2, b3, m1, c1, c2, c3⟩
    · exact sT_low hP hM h0 n q x z
    · have := sT_low hP hM h0 n _ _ c3
      omega
theorem sT_f (hP : 0 < kP D) (hM : kMi D ≤ 60) (h0 : m0 < kMi D) (n : Nat) : sT D f m0 n f = m0 := by
  have h1 := sT_low (f := f) hP hM h0 n f _ (Nat.le_refl _)
  have h2 := sT_mono (f := f) (m0 := m0) hP hM (q := f) n 0
  rw [Nat.zero_add] at h2
  have h3 : sT D f m0 0 f = m0 := if_pos rfl
  omega
theorem Ll_mono (hP : 0 < kP D) (hM : kMi D ≤ 60) {n s m : Nat} (h : Ll D f m0 n s m) : Ll D f m0 (n + 1) s m := by
  obtain ⟨m1, a, b, c⟩ := h
  exact ⟨m1, a, b, Nat.le_trans (sT_mono1 hP hM) c⟩
theorem sT_E (hP : 0 < kP D) (hM : kMi D ≤ 60) {q x : Nat} (hq : q ≠ f) (hx : x < 1000000) : ∀ n, sT D f m0 n q ≤ x ↔ ∃ n', n = n' + 1 ∧ ∃ s m2, s < kNs D ∧ m2 ≤ x ∧ m2 < kMi D ∧ kPl D s m2 = q ∧ Ll D f m0 n' s m2
  | 0 => by
    have e : sT D f m0 0 q = 1000000 := if_neg hq
    rw [e]
    exact ⟨fun z => by omega, fun ⟨n', z, _⟩ => by omega⟩
  | n + 1 => by
    rw [sT_succ hP hM, sT_E hP hM hq hx n]
    constructor
    · rintro (⟨n', rfl, s, m2, s1, b4, b2, b3, b5⟩ | ⟨s, m2, z⟩)
      · exact ⟨n' + 1, rfl, s, m2, s1, b4, b2, b3, Ll_mono hP hM b5⟩
      · exact ⟨n, rfl, s, m2, z⟩
    · rintro ⟨n', e, s, m2, z⟩
      have : n' = n := by omega
      subst this
      exact Or.inr ⟨s, m2, z⟩
/-! so many stalls as places are enough -/
def cnB (B : Nat → Bool) : Nat → Nat
  | 0 => 0
  | n + 1 => cnB B n + if B n then 1 else 0
theorem cnB_le {B : Nat → Bool} : ∀ n, cnB B n ≤ n
  | 0 => Nat.le_refl _
  | n + 1 => by
    have := cnB_le (B := B) n
    unfold cnB
    split <;> omega
theorem cnB_add {B : Nat → Bool} {q : Nat} (h : B q = false) : ∀ n, (q < n → cnB (fun r => B r || r == q) n = cnB B n + 1) ∧ (n ≤ q → cnB (fun r => B r || r == q) n = cnB B n)
  | 0 => ⟨fun z => by omega, fun _ => rfl⟩
  | n + 1 => by
    have ih := cnB_add h n
    unfold cnB
    by_cases e : q = n
    · subst e
      have := ih.2 (Nat.le_refl _)
      simp [h]
      omega
    · have e2 : (n == q) = false := by simp; omega
      rw [e2, Bool.or_false]
      exact ⟨fun z => by have := ih.1 (by omega); omega, fun z => by have := ih.2 (by omega); omega⟩
theorem imp_step (hP : 0 < kP D) (hM : kMi D ≤ 60) {n q : Nat} (h : sT D f m0 (n + 2) q < sT D f m0 (n + 1) q) : ∃ p, p < kP D ∧ sT D f m0 (n + 1) p < sT D f m0 n p ∧ sT D f m0 (n + 1) p < sT D f m0 (n + 2) q := by
  rcases (sT_succ (f := f) (m0 := m0) hP hM (n := n + 1) (q := q)).mp (Nat.le_refl _) with z | ⟨s, m2, s1, b4, b2, b3, m1, c1, c2, c3⟩
  · have : sT D f m0 (n + 1 + 1) q < sT D f m0 (n + 1) q := h
    omega
  · refine ⟨kPl D s m1, kPl_lt hP s m1, Nat.lt_of_not_le (fun y => ?_), ?_⟩
    · have := (sT_succ (f := f) (m0 := m0) hP hM (n := n) (q := q) (x := m2)).mpr (Or.inr ⟨s, m2, s1, Nat.le_refl _, b2, b3, m1, c1, c2, by omega⟩)
      have : sT D f m0 (n + 1 + 1) q < sT D f m0 (n + 1) q := h
      omega
    · show _ < sT D f m0 (n + 1 + 1) q
      omega
theorem imp_cnt (hP : 0 < kP D) (hM : kMi D ≤ 60) : ∀ n q, q < kP D → sT D f m0 (n + 1) q < sT D f m0 n q → ∃ B : Nat → Bool, n + 1 ≤ cnB B (kP D) ∧ ∀ r, B r = true → sT D f m0 (n + 1) r ≤ sT D f m0 (n + 1) q
  | 0, q, hq, h => by
    refine ⟨fun r => false || r == q, ?_, fun r hr => ?_⟩
    · have := (cnB_add (B := fun _ => false) (q := q) rfl (kP D)).1 hq
      omega
    · have : r = q := by simpa using hr
      rw [this]
      exact Nat.le_refl _
  | n + 1, q, hq, h => by
    obtain ⟨p, p1, p2, p3⟩ := imp_step hP hM h
    obtain ⟨B, b1, b2⟩ := imp_cnt hP hM n p p1 p2
    have hB : B q = false := by
      cases e : B q with
      | false => rfl
      | true =>
        have := b2 q e
        have h' : sT D f m0 (n + 2) q < sT D f m0 (n + 1) q := h
        omega
    refine ⟨fun r => B r || r == q, ?_, fun r hr => ?_⟩
    · have := (cnB_add hB (kP D)).1 hq
      omega
    · by_cases e : r = q
      · rw [e]
        exact Nat.le_refl _
      · have hr' : B r = true := by simpa [e] using hr
        have h1 := b2 r hr'
        have h2 := sT_mono1 (f := f) (m0 := m0) hP hM (n := n + 1) (q := r)
        have h3 : sT D f m0 (n + 1) p < sT D f m0 (n + 1 + 1) q := p3
        omega
theorem sT_stab1 (hP : 0 < kP D) (hM : kMi D ≤ 60) {n q : Nat} (hq : q < kP D) (hn : kP D ≤ n) : sT D f m0 (n + 1) q = sT D f m0 n q := by
  have h1 := sT_mono1 (f := f) (m0 := m0) hP hM (n := n) (q := q)
  rcases Nat.lt_or_ge (sT D f m0 (n + 1) q) (sT D f m0 n q) with z | z
  · obtain ⟨B, b1, -⟩ := imp_cnt hP hM n q hq z
    have := cnB_le (B := B) (kP D)
    omega
  · omega
theorem sT_stab (hP : 0 < kP D) (hM : kMi D ≤ 60) {q : Nat} (hq : q < kP D) : ∀ d, sT D f m0 (kP D + d) q = sT D f m0 (kP D) q
  | 0 => rfl
  | d + 1 => (sT_stab1 (n := kP D + d) hP hM hq (Nat.le_add_right _ _)).trans (sT_stab hP hM hq d)
/-- no number of stalls brings it earlier -/
theorem sT_best (hP : 0 < kP D) (hM : kMi D ≤ 60) {q : Nat} (hq : q < kP D) (n : Nat) : sT D f m0 (kP D) q ≤ sT D f m0 n q := by
  rcases Nat.le_total n (kP D) with z | z
  · obtain ⟨d, hd⟩ := Nat.le.dest z
    rw [← hd]
    exact sT_mono hP hM d n
  · obtain ⟨d, hd⟩ := Nat.le.dest z
    rw [← hd, sT_stab hP hM hq d]
    exact Nat.le_refl _
end QQ
end SE
