/-! MULTIANEWARRAY: a table of rows of ints (the library's own law, called) -/
theorem arrV_of {cell : Cell} {cA : ClassId} {N : Nat} {z : Nat → Value} {sl : Array Value} (h : cell = { cls := cA, slots := sl, vm := .none }) (h3 : cell.slots.size = N) (h4 : ∀ j, j < N → cell.slots[j]? = some (z j)) : cell = arrV cA N z := by
  subst h
  have e : sl = (arrV cA N z).slots := by
    apply Array.ext_getElem?
    intro j
    by_cases hj : j < N
    · rw [arrV_read _ _ hj]
      exact h4 j hj
    · rw [Array.getElem?_eq_none (by have : sl.size = N := h3; omega), Array.getElem?_eq_none (by rw [arrV_size]; omega)]
  rw [e]
  rfl
theorem outer_sh (c : ClassId) (N h0 : Nat) : ∀ i, ∃ sl, Jvm.Free.Multi.outerC c N h0 i = { cls := c, slots := sl, vm := .none }
  | 0 => ⟨_, rfl⟩
  | i + 1 => by
    obtain ⟨sl, e⟩ := outer_sh c N h0 i
    refine ⟨sl.setIfInBounds i (.ref (h0 + 1 + i)), ?_⟩
    show (Jvm.Free.Multi.outerC c N h0 i).setSlot i (.ref (h0 + 1 + i)) = _
    rw [e]
    rfl
theorem str_arr : "[" ++ (FieldType.array FieldType.int).toString = "[[I" := by decide
theorem h_multi {X : Cx} {cc : ByteArray} {own : String} {fr lc : Nat} {S : Shp} {n n' kc kc' ks ks' : Nat} {M : Mem} {pc pc' : Nat} {lo : List (Option Value)} {st : List Value} (hX : OkX X cc own fr lc) (hG : OkG X n kc) {idx N L : Nat} {v w : Int32} (hd : Dc cc pc (.multianewarray idx 2) 4 pc') (hw : Cond.classLink own idx "[[I" ∈ WALL) (ha : Cond.arrayClass .int ∈ WALL) (hZ : Z0 M n) (hS : S n = (109, N)) (hS2 : ∀ j, j < N → S (n + 1 + j) = (100, L)) (hv : ¬ v < 0) (hN : v.toNatClampNeg = N) (hw0 : ¬ w < 0) (hL : w.toNatClampNeg = L) (hb1 : N * 4 ≤ 536870912) (hb2 : L * 4 ≤ 536870912) (h1 : n' = n + 1 + N) (h2 : kc' = kc + 1 + N) (h3 : ks' = ks + N + N * L) (hk : kc' ≤ X.R.cells) (hs : ks' ≤ X.R.slots) (k : GoN X (cut S n') n' kc' ks' (mulR M n N) pc' lo (.ref (X.B + n) :: st)) : GoN X (cut S n) n kc ks M pc lo (.int w :: .int v :: st) := by
  subst h1; subst h2; subst h3; subst hN; subst hL
  obtain ⟨hd, rfl⟩ := hd
  intro H locs ls q1 q2 q3 q4 T hT X2
  have hle : H.size ≤ X.s.heap.size + kc := by have := X2.same.2.2.1; rw [← hT]; exact this
  have hsz : H.size = X.B + n := by
    rcases Nat.eq_zero_or_pos n with hn | hn
    · have g1 := hG.2.1
      have g2 := hG.2.2.1
      have g3 : X.s.heap.size ≤ H.size := by rw [← hX.2.2.2.2.2.2.2.2]; exact q2.1
      omega
    · exact sz_at hG hn q1 hle
  have hcl : (Cond.classLink own idx ("[" ++ (FieldType.array FieldType.int).toString)).before X.args X.s = true := by rw [str_arr]; exact hX.2.2.2.1 _ hw
  obtain ⟨vm₁, cA, comp, hW, hfA, hfC, hO, hI, X1, step⟩ := X2.multianewarray2F hX.1 (ty := .int) hX.2.2.1 hcl (show (Cond.arrayOver (.array .int)).before X.args X.s = true from hG.2.2.2.2.2) (hX.2.2.2.1 _ ha) (g := F0 X.m pc ls (.int w :: .int v :: st)) rfl (by rw [hX.2.1]; exact hd) rfl hv hw0 hb1 hb2 (by omega) rfl rfl (by omega) (by omega)
  obtain ⟨f1, f2, f3, f4⟩ := Jvm.Free.Multi.fill_facts (T.setVm vm₁) cA comp v.toNatClampNeg w.toNatClampNeg (defaultValue .int) v.toNatClampNeg
  have fo := fun (a : Addr) (ha : a < T.heap.size) => Jvm.Free.Multi.fill_old (T.setVm vm₁) cA comp v.toNatClampNeg w.toNatClampNeg (defaultValue .int) (a := a) ha v.toNatClampNeg
  have fi := fun (j : Nat) (hj : j < v.toNatClampNeg) => Jvm.Free.Multi.fill_inner (T.setVm vm₁) cA comp v.toNatClampNeg w.toNatClampNeg (defaultValue .int) v.toNatClampNeg j hj
  obtain ⟨o1, o2, o3⟩ := Jvm.Free.Multi.outerC_facts cA v.toNatClampNeg T.heap.size v.toNatClampNeg
  have os := fun (j : Nat) (hj : j < v.toNatClampNeg) => Jvm.Free.Multi.outerC_slot cA v.toNatClampNeg T.heap.size v.toNatClampNeg j hj
  have eT : (T.setVm vm₁).heap = H := hT
  rw [eT] at f1 f2 fi
  rw [hT] at os o1 o2 o3 step fo
  rw [eT] at fo
  have e9 : cA = X.cA 9 := Option.some.inj (hfA.symm.trans (hX.2.2.2.2.1.2 9 _ (tys_get (t := 9) rfl)).2)
  have e0 : comp = X.cA 0 := Option.some.inj (hfC.symm.trans (hX.2.2.2.2.1.2 0 _ (tys_get (t := 0) rfl)).2)
  subst e9; subst e0
  generalize hTT : Jvm.Free.Multi.fill (T.setVm vm₁) (X.cA 9) (X.cA 0) v.toNatClampNeg w.toNatClampNeg (defaultValue .int) v.toNatClampNeg = T' at f1 f2 fo fi X1 step
  have hP : va_P X.D cls (wsOf X.cA X.B (cut S (n + 1 + v.toNatClampNeg)) (n + 1 + v.toNatClampNeg) (mulR M n v.toNatClampNeg)) T'.heap := by
    intro j q hj
    obtain ⟨hj1, rfl⟩ := ws_inv hj
    rw [cellE_sh (sh' := S) (cut_i hj1)]
    rcases Nat.lt_trichotomy j n with h | h | h
    · have g := q1 j _ (ws_get h)
      rw [cellE_sh (sh := cut S n) (sh' := S) (cut_i h)] at g
      rw [cellE_ne (M := M) (M' := mulR M n v.toNatClampNeg) (fun _ => rfl) (fun _ => rfl) (fun i => by
        show (if j = n ∧ i < v.toNatClampNeg then _ else gR M j i) = _
        rw [if_neg (fun z => by have := z.1; omega)])]
      exact g.kept (fo _ (by show X.B + j < H.size; omega))
    · subst h
      rw [ce_arr (t := 9) (by rw [hS]), show ak 9 = 2 from rfl, ar2, hS]
      show T'.heap[X.B + j]? = some (vp_cell _ _)
      rw [← hsz, f2, vp_cell_q]
      obtain ⟨sl, esl⟩ := outer_sh (X.cA 9) v.toNatClampNeg (X.B + j) v.toNatClampNeg
      refine congrArg some (arrV_of (by rw [hsz]; exact esl) o3 (fun i hi => ?_))
      rw [os i hi, if_pos hi]
      have e : gR (mulR M j v.toNatClampNeg) j i = some (j + 1 + i) := by
        show (if j = j ∧ i < v.toNatClampNeg then some (j + 1 + i) else _) = _
        rw [if_pos ⟨rfl, hi⟩]
      rw [e, hsz]
      show some (Value.ref (X.B + j + 1 + i)) = some (Value.ref (X.B + (j + 1 + i)))
      rw [show X.B + j + 1 + i = X.B + (j + 1 + i) by omega]
    · obtain ⟨i, rfl⟩ : ∃ i, j = n + 1 + i := ⟨j - (n + 1), by omega⟩
      have hi : i < v.toNatClampNeg := by omega
      rw [ce_arr (t := 0) (by rw [hS2 i hi]), show ak 0 = 0 from rfl, ar0, hS2 i hi]
      show T'.heap[X.B + (n + 1 + i)]? = some (vp_cell _ _)
      have g := fi i hi
      rw [hsz, show X.B + n + 1 + i = X.B + (n + 1 + i) by omega] at g
      rw [g, vp_cell_i]
      refine congrArg some (arrV_of (by rfl) (by simp [Jvm.Free.Multi.innerC]) (fun a ha => ?_))
      have e : gI (mulR M n v.toNatClampNeg) (n + 1 + i) a = 0 := (hZ (n + 1 + i) (by omega) a).1
      rw [e]
      simp [Jvm.Free.Multi.innerC, ha]
      rfl
  have hS' : va_S X.A X.H0 T'.heap locs := ⟨Nat.le_trans q2.1 (by rw [f1]; omega), fun a g1 g2 => by rw [fo a (Nat.lt_of_lt_of_le g1 q2.1)]; exact q2.2.1 a g1 g2, q2.2.2⟩
  rw [hsz] at step
  obtain ⟨t, a1, b1⟩ := k T'.heap locs ls hP hS' q3 q4 T' rfl X1
  exact ⟨t, step t a1, b1⟩
