/-- every sale's minute is one of the hour's -/
def IvS (H : HS) : Prop := ∀ i, i < H 8 0 0 → H 9 i 0 ≤ 60
theorem jv_op {D : MK} {m : Nat} {H : HS} (hW : WFD D) (h : IvB D m H) (hs : IvS H) : IvJ D m (opS D m H) := by
  refine ⟨iv_op hW h, ⟨fun i hi => ?_, fun s hs' => ?_⟩, fun s hs' h5 => ?_⟩
  · have := hs i (by simpa [opS] using hi)
    simpa [opS] using this
  · have : opS D m H 3 s 0 = 0 := by simp [opS, hs']
    omega
  · simp [opS, hs', h5]
theorem ivS_cl {D : MK} {m : Nat} {H : HS} (h : IvS H) : IvS (clS D m H) := fun i hi => by
  have := h i (by simpa [clS] using hi)
  simpa [clS] using this
theorem ivS_hr {D : MK} (hW : WFD D) : ∀ m, m ≤ 60 → IvS (hrS D m)
  | 0, _ => fun i hi => by simp [hrS, bgS] at hi
  | m + 1, hm => by
    have h1 := jv_op hW (iv_hr hW m) (ivS_hr hW m (by omega))
    have h2 := jv_trP h1 hW (by omega) (kP D)
    show IvS (clS D m _)
    exact ivS_cl h2.2.1.1
theorem jv_hr {D : MK} (hW : WFD D) {m : Nat} (hm : m ≤ 60) : IvJ D m (opS D m (hrS D m)) := jv_op hW (iv_hr hW m) (ivS_hr hW m hm)
