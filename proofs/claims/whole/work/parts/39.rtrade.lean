/-! A SALE, the reference -/
def OnlyK (S : Nat → Nat → Prop) (M M' : Mem) : Prop := M'.2 = M.2 ∧ ∀ a k, ¬ S a k → gI M' a k = gI M a k
theorem OnlyK.rf {S : Nat → Nat → Prop} {M : Mem} : OnlyK S M M := ⟨rfl, fun _ _ _ => rfl⟩
theorem OnlyK.tr {S : Nat → Nat → Prop} {M M' M'' : Mem} (h : OnlyK S M M') (h' : OnlyK S M' M'') : OnlyK S M M'' := ⟨h'.1.trans h.1, fun a k q => (h'.2 a k q).trans (h.2 a k q)⟩
theorem OnlyK.mono {S T : Nat → Nat → Prop} {M M' : Mem} (h : OnlyK S M M') (hs : ∀ a k, S a k → T a k) : OnlyK T M M' := ⟨h.1, fun a k q => h.2 a k (fun z => q (hs a k z))⟩
theorem OnlyK.I {S : Nat → Nat → Prop} {M M' : Mem} {a k : Nat} {v : Int32} (h : OnlyK S M M') (ha : S a k) : OnlyK S M (sI M' a k v) := ⟨h.1, fun b j q => by
  rw [gI_sI, if_neg (fun z => q (by rw [z.1, z.2]; exact ha))]
  exact h.2 b j q⟩
theorem OnlyK.RR {S : Nat → Nat → Prop} {M M' : Mem} (h : OnlyK S M M') (hc : RR M) : RR M' := fun a k => by
  have e : gR M' a k = gR M a k := by
    show M'.2.2 a k = M.2.2 a k
    rw [h.1]
  exact e.trans (hc a k)
/-- what an hour's minutes write -/
def inQ (a k : Nat) : Prop := (16 ≤ a ∧ a ≤ 31) ∨ (a = 0 ∧ (k = 46 ∨ k = 47))
theorem RC.onlyK {M M' : Mem} {D : MK} (h : RC M D) (hO : OnlyK inQ M M') : RC M' D := by
  have e : ∀ a k, 6 ≤ a → a ≤ 14 → gI M' a k = gI M a k := fun a k h1 h2 => hO.2 a k (by unfold inQ; omega)
  refine ⟨hO.RR h.1, h.2.1, ⟨?_, fun r hr => ?_, fun s hs j hj => ?_, fun i hi => ⟨fun j hj => ?_, fun w hw j hj => ?_⟩⟩, fun r hr m hm => ?_⟩
  · simp only [e 7 _ (by decide) (by decide), e 6 _ (by decide) (by decide)]
    exact h.2.2.1.1
  · simp only [e 8 _ (by decide) (by decide)]
    exact h.2.2.1.2.1 r hr
  · rw [e 9 _ (by decide) (by decide)]
    exact h.2.2.1.2.2.1 s hs j hj
  · rw [e 10 _ (by decide) (by decide)]
    exact (h.2.2.1.2.2.2 i hi).1 j hj
  · rw [e 11 _ (by decide) (by decide)]
    exact (h.2.2.1.2.2.2 i hi).2 w hw j hj
  · rw [e 14 _ (by decide) (by decide)]
    exact h.2.2.2 r hr m hm
/-- what its trades write -/
def inW (a k : Nat) : Prop := (16 ≤ a ∧ a ≤ 27) ∨ a = 31 ∨ (a = 0 ∧ (k = 46 ∨ k = 47))
theorem inW_Q {a k : Nat} (h : inW a k) : inQ a k := by
  unfold inW at h
  unfold inQ
  omega
theorem RC.onlyW {M M' : Mem} {D : MK} (h : RC M D) (hO : OnlyK inW M M') : RC M' D := h.onlyK (hO.mono (fun _ _ => inW_Q))
/-- a sale written down -/
def tr9 (M : Mem) (s b m p n tk ct pd : Nat) (f : Int32) : Mem :=
  sI (sI (sI (sI (sI (sI (sI (sI (sI (sI M 18 s (nI (tk + p))) 19 s (nI (ct + 1))) 20 s f) 21 s 1) 31 (4 * n) (nI m)) 31 (4 * n + 1) (nI s)) 31 (4 * n + 2) (nI b)) 31 (4 * n + 3) (nI p)) 0 46 (nI (n + 1))) 0 47 (nI (pd + p))
theorem tr261_eq {M : Mem} {s b m p n pd : Nat} {f : Int32} (hR : RR M) (hs : s < 8) (hn : n < 160) (h46 : gI M 0 46 = nI n) (h47 : gI M 0 47 = nI pd) :
    f_X11_trades_261 M 0 (nI s) (nI b) (nI m) (nI p) f (nI s) 20 = some (sI (sI (sI (sI (sI (sI (sI (sI M 20 s f) 21 s 1) 31 (4 * n) (nI m)) 31 (4 * n + 1) (nI s)) 31 (4 * n + 2) (nI b)) 31 (4 * n + 3) (nI p)) 0 46 (nI (n + 1))) 0 47 (nI (pd + p))) := by
  have m4 : ∀ k, (4 : Int32) * nI k = nI (4 * k) := fun k => by rw [show (4 : Int32) = nI 4 from rfl, pk_mul]
  unfold f_X11_trades_261
  rw [aB_t s zR_20 rfl (by omega) (by decide), gd_t, nx_t, oR, gd_t, nI_clamp (n := s) (by omega), rr_35 hR.I, bd_t, aB_t s zR_21 rfl (by omega) (by decide), gd_t, nx_t, vpn1, rr_45 hR.I.I, bd_t]
  have g : ∀ (N : Mem), gI N 0 46 = nI n → ∀ a k v, ¬ (a = 0 ∧ k = 46) → gI (sI N a k v) 0 46 = nI n := fun N h a k v q => by
    rw [gI_sI, if_neg (fun z => q ⟨z.1.symm, z.2.symm⟩)]; exact h
  have g1 := g M h46 20 s f (by omega)
  have g2 := g _ g1 21 s 1 (by omega)
  have g3 := g _ g2 31 (4 * n) (nI m) (by omega)
  have g4 := g _ g3 31 (4 * n + 1) (nI s) (by omega)
  have g5 := g _ g4 31 (4 * n + 2) (nI b) (by omega)
  have g6 := g _ g5 31 (4 * n + 3) (nI p) (by omega)
  have c0 : (nI (4 * n)).toNatClampNeg = 4 * n := nI_clamp (by omega)
  have c1 : (nI (4 * n + 1)).toNatClampNeg = 4 * n + 1 := nI_clamp (by omega)
  have c2 : (nI (4 * n + 2)).toNatClampNeg = 4 * n + 2 := nI_clamp (by omega)
  have c3 : (nI (4 * n + 3)).toNatClampNeg = 4 * n + 3 := nI_clamp (by omega)
  rw [g2, m4, aB_t (4 * n) zR_31 rfl (by omega) (by decide), gd_t, nx_t, c0, g3, m4, nI_1, aB_t (4 * n + 1) zR_31 rfl (by omega) (by decide), gd_t, nx_t, c1, g4, m4, show nI (4 * n) + 2 = nI (4 * n + 2) from nI_add _ _, aB_t (4 * n + 2) zR_31 rfl (by omega) (by decide), gd_t, nx_t, c2, g5, m4, show nI (4 * n) + 3 = nI (4 * n + 3) from nI_add _ _, aB_t (4 * n + 3) zR_31 rfl (by omega) (by decide), gd_t, nx_t, c3, g6, nx_t, nI_1]
  have e47 : gI (sI (sI (sI (sI (sI (sI (sI M 20 s f) 21 s 1) 31 (4 * n) (nI m)) 31 (4 * n + 1) (nI s)) 31 (4 * n + 2) (nI b)) 31 (4 * n + 3) (nI p)) 0 46 (nI (n + 1))) 0 47 = nI pd := by
    rw [gI_sI, if_neg (by omega), gI_sI, if_neg (by omega), gI_sI, if_neg (by omega), gI_sI, if_neg (by omega), gI_sI, if_neg (by omega), gI_sI, if_neg (by omega), gI_sI, if_neg (by omega)]
    exact h47
  rw [e47, nI_add, nx_t]
theorem tr215_eq {M : Mem} {s b m p n tk ct pd : Nat} (hR : RR M) (hs : s < 8) (hn : n < 160) (h46 : gI M 0 46 = nI n) (h47 : gI M 0 47 = nI pd) (h18 : gI M 18 s = nI tk) (h19 : gI M 19 s = nI ct) :
    f_X11_trades_215 M 0 (nI s) (nI b) (nI m) (nI p) = some (tr9 M s b m p n tk ct pd (if gI M 20 s = -1 then nI m else gI M 20 s)) := by
  unfold f_X11_trades_215
  rw [oR, gd_t, rr_32 hR, bd_t, aB_t s zR_18 rfl (by omega) (by decide), gd_t, nx_t, nI_clamp (n := s) (by omega), h18, nI_add, rr_33 hR.I, bd_t, aB_t s zR_19 rfl (by omega) (by decide), gd_t, nx_t, show gI (sI M 18 s (nI (tk + p))) 19 s = nI ct by rw [gI_sI, if_neg (by omega)]; exact h19, nI_1, rr_34 hR.I.I, bd_t, aB_t s zR_20 rfl (by omega) (by decide), gd_t]
  have e20 : gI (sI (sI M 18 s (nI (tk + p))) 19 s (nI (ct + 1))) 20 s = gI M 20 s := by rw [gI_sI, if_neg (by omega), gI_sI, if_neg (by omega)]
  have e46 : gI (sI (sI M 18 s (nI (tk + p))) 19 s (nI (ct + 1))) 0 46 = nI n := by rw [gI_sI, if_neg (by omega), gI_sI, if_neg (by omega)]; exact h46
  have e47 : gI (sI (sI M 18 s (nI (tk + p))) 19 s (nI (ct + 1))) 0 47 = nI pd := by rw [gI_sI, if_neg (by omega), gI_sI, if_neg (by omega)]; exact h47
  rw [e20]
  by_cases hf : gI M 20 s = -1
  · rw [if_pos hf, if_pos hf, tr261_eq hR.I.I hs hn e46 e47]
    rfl
  · rw [if_neg hf, if_neg hf, tr261_eq hR.I.I hs hn e46 e47]
    rfl
