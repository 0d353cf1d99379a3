/-! CONSTRUCTORS' CONTRACTS: their start, their end, their calls -/
section GI
variable {X : Cx} {cc : ByteArray} {own : String} {fr lc : Nat} {S : Shp} {n kc ks : Nat} {M : Mem} {pc pc' tgt : Nat} {lo : List (Option Value)} {st : List Value}
def RetG (X : Cx) (S : Shp) (n kc ks : Nat) (M : Mem) : Prop := X.Q = MQ X.below (QG X.D X.cA X.B S n M) X.args X.s kc ks (fun a => X.B ≤ a) ∧ X.meth.sig.returnType = none ∧ X.meth.locks = false ∧ X.H0 = X.s.heap
theorem g_ret (hX : OkX X cc own fr lc) (hA : ∀ a, X.A a ↔ X.B ≤ a) (hR : RetG X S n kc ks M) (hd : Dc cc pc .return_ 1 pc') : GoN X (cut S n) n kc ks M pc lo [] := by
  obtain ⟨hQ, hr, hlk, h0⟩ := hR
  intro H locs ls h1 h2 h3 h4
  rw [hQ]
  rw [h0] at h2
  exact W.vret hX.1 hX.2.1 hr (fun t ht hW => ⟨⟨(), rfl, trivial, by subst ht; exact h1⟩, by subst ht; exact ⟨h2.1, fun q h5 h6 => h2.2.1 q h5 (fun z => h6 ((hA q).mp z))⟩⟩) (fun q hq => (hA _).mp (h2.2.2 q hq)) hd.1 hlk
theorem met_g {l : Launch} {y : MethodName} {bytes : ByteArray} {maxL mc ms q : Nat} {M' : Mem} (hy : plainFor y = true) (hown : y.cls = own) (hnm : y.name = "<init>") (hml : 1 ≤ maxL)
    (body : ∀ X : Cx, OkX X bytes own fr lc → OkG X (q + 1) 0 → X.l = l → X.meth.name = "<init>" → X.R.cells = mc → X.R.slots = ms → RetG X S n mc ms M' → GoN X (cut S (q + 1)) (q + 1) 0 0 M 0 (some (.ref (X.B + q)) :: List.replicate (maxL - 1) none) []) : CG l y bytes maxL fr lc mc ms S q n M M' := by
  intro D cA B
  refine MetFree.of_bodySF (code := bytes) (maxLocals := maxL) (ret := none) hy (fun args s m h hn => ?_) (fun p e s m args below meth c s₁ Bd hml' hv _ => ?_)
  · obtain ⟨meth, c, h1, h2, h3, h4, h5, h6, -, -⟩ := Cond.code_spec hn (atoms_spec (ws := wsM y bytes maxL none) h _ List.mem_cons_self)
    exact ⟨meth, c, h1, h2, h3, h4, h5, h6⟩
  obtain ⟨rfl, hsz, hP, hK, hSt, hNs⟩ := hv
  have hts := atoms_spec (ws := wsM y bytes maxL none) Bd.pre
  have hw : ∀ w ∈ WALL, w.before ([Value.ref (B + q)]).toArray s = true := fun w h => hts w (List.mem_cons_of_mem _ h)
  have ho : s.vm.findClass own = some m.cls := by rw [← hown]; exact findClass_of_methodNamed Bd.named
  let X : Cx := (p, l, e, (headSpec (wsM y bytes maxL none) (rmG fr lc mc ms)).room, s, m, ([Value.ref (B + q)]).toArray, below, meth, c, MQ below (QG D cA B S n M') ([Value.ref (B + q)]).toArray s mc ms (fun a => B ≤ a), D, cA, B, s.heap, fun a => B ≤ a)
  have hX : OkX X bytes own fr lc := ⟨Bd.exec, Bd.bytes, ho, hw, hK, rfl, rfl, hSt, rfl⟩
  have hG : OkG X (q + 1) 0 := ⟨fun _ => Iff.rfl, hsz, by show B ≤ s.heap.size; rw [show s.heap.size = B + (q + 1) from hsz]; exact Nat.le_add_right _ _, hNs⟩
  have hin : meth.name = "<init>" := by rw [← hnm]; exact (name_of_methodNamed Bd.named Bd.method).1
  have G := body X hX hG rfl hin rfl rfl ⟨rfl, Bd.returns, Bd.notSynchronized, rfl⟩
  have hlen : (some (Value.ref (B + q)) :: List.replicate (maxL - 1) none).length = maxL := by simp; omega
  have hl := lv_entry [Value.ref (B + q)] (n := maxL) (by show 1 ≤ maxL; exact hml)
  have hl2 : lv_has ((lg_sl [Value.ref (B + q)] ++ List.replicate (maxL - (lg_sl [Value.ref (B + q)]).length) Slot.unset).toArray) (some (Value.ref (B + q)) :: List.replicate (maxL - 1) none).length (lpr 0 (some (Value.ref (B + q)) :: List.replicate (maxL - 1) none)) := by
    rw [hlen]
    have e : lpr 0 (some (Value.ref (B + q)) :: List.replicate (maxL - 1) none) = lv_args 0 [Value.ref (B + q)] := by
      have h0 : ∀ k b, lpr b (List.replicate k none) = [] := by
        intro k
        induction k with
        | zero => intro b; rfl
        | succ k ih => intro b; rw [List.replicate_succ]; exact ih (b + 1)
      rw [lpr, h0]
      rfl
    rw [e]
    exact hl
  have hh0 : s₁.heap = s.heap := by rw [Bd.state]; rfl
  have GG := G s.heap [] _ hP va_S.rf hl2 (hml'.trans hlen.symm)
  rw [← lg_entry_eq] at GG
  obtain ⟨t, a1, o, b1, b2, b3⟩ := GG s₁ hh0 (Stand.of_body Bd)
  exact ⟨t, o, a1, b1, b2, ⟨b3.1, b3.2⟩⟩
theorem picg_blind {D : va_G} {cA : Nat → ClassId} {B q : Nat} : FrameBlind (va_Pc [.ref (B + q)] (PicG D cA B S n M)) := fun a U g mk h => by
  obtain ⟨q0, qz, qP, qK, qS, qN⟩ := h
  exact ⟨q0, qz, qP, va_K.moved (u := U) (U := U.calling g mk a) (Vm.Alike.refl U.vm) qK, Strs.same (u := U) rfl qS, Nst.same (u := U) rfl qN⟩
theorem picg_at {kc : Nat} (hX : OkX X cc own fr lc) (hG : OkG X n kc) {H : Heap} {locs : List Loc} (hz : H.size = X.B + n) (h1 : va_P X.D cls (wsOf X.cA X.B (cut S n) n M) H) (h2 : va_S X.A X.H0 H locs) (U : State) (hU : U.heap = H) (hW : X.s.WarmedH U.vm) : PicG X.D X.cA X.B S n M U := by
  refine ⟨by rw [hU]; exact hz, by rw [hU]; exact h1, va_K.moved hW.alike hX.2.2.2.2.1, ?_, Nst.warm hW hG.2.2.2⟩
  rw [hU]
  exact (Strs.warm hW (hX.2.2.2.2.2.2.2.1.kept h2.2.1)).narrow (fun a h => (hG.1 a).mpr h)
theorem cg_of {host : String} {idx maxL mc ms fr' lc' : Nat} {y : MethodName} {bytes : ByteArray} (hX : OkX X cc own fr lc) (hG : OkG X n kc) (hc : CW y bytes maxL none 0) (hlk : Cond.methodLinkNest own idx y host ∈ NESTW) (hr : fr' + 1 ≤ fr ∧ 8 + (maxL + 11) + lc' ≤ lc) : va_CN X.R X.s X.args own idx y host bytes maxL none (wsM y bytes maxL none) (rmG fr' lc' mc ms) mc ms 0 := by
  obtain ⟨c1, c2, c3, c4, c5⟩ := hc
  have hw := hX.2.2.2.1
  refine va_cnB (Ts := WALL) (ws' := WALL) 0 hw (fun w h => ?_) rfl rfl rfl (hG.2.2.2.1 own idx y host hlk) (hw _ c2) ⟨c3, c4, c5⟩ (by rw [hX.2.2.2.2.2.1, hX.2.2.2.2.2.2.1]; exact hr)
  rcases List.mem_cons.mp h with h | h
  · subst h
    exact ⟨c1, WALL_good _ c1⟩
  · exact ⟨h, WALL_good _ h⟩
theorem g_init {host : String} {idx maxL mc ms fr' lc' q : Nat} {y : MethodName} {bytes : ByteArray} {M' : Mem} (hX : OkX X cc own fr lc) (hG : OkG X (q + 1) kc) (hd : Dc cc pc (.invokespecial idx) 3 pc') (hM : CG X.l y bytes maxL fr' lc' mc ms S q (q + 1 + mc) M M') (hc : CW y bytes maxL none 0) (hnm : y.name = "<init>") (hi : Cond.instanceMethod y ∈ WALL) (hlk : Cond.methodLinkNest own idx y host ∈ NESTW) (hr : fr' + 1 ≤ fr ∧ 8 + (maxL + 11) + lc' ≤ lc) (hcat : (st.map fun v => v.category).sum ≤ 8) (hk : kc + mc ≤ X.R.cells) (hs : ks + ms ≤ X.R.slots)
    (k : GoN X (cut S (q + 1 + mc)) (q + 1 + mc) (kc + mc) (ks + ms) M' pc' lo st) : GoN X (cut S (q + 1)) (q + 1) kc ks M pc lo (.ref (X.B + q) :: st) := by
  obtain ⟨hd, rfl⟩ := hd
  intro H locs ls h1 h2 h3 h4 T hT X2
  have hz := sz_at hG (Nat.succ_pos q) h1 (by have := X2.same.2.2.1; rw [← hT]; exact this)
  refine va_callv (A1 := fun a => X.B ≤ a) (va_runIN (Ts := WALL) (As := []) (rest := st) ⟨hX.1, hX.2.1, h4, hX.2.2.1, hX.2.2.2.1⟩ (hM X.D X.cA X.B) ⟨cg_of hX hG hc hlk hr, hnm, hX.2.2.2.1 _ hi⟩ ⟨picg_blind, fun U hU hW => ⟨rfl, picg_at hX hG hz h1 h2 U hU hW⟩⟩ rfl rfl h3.1 rfl (sum8 hcat ls) hd ⟨hk, hs⟩) h2 (fun a _ h => (hG.1 a).mpr h) (fun a h => (hG.1 a).mpr h) (fun u t H1 locs1 ht hal hp hb hz' hkp hS => ?_) T hT X2
  subst ht
  exact k t.heap locs1 ls hb hS h3 h4
theorem cgp_of {idx maxL mc ms fr' lc' : Nat} {y : MethodName} {bytes : ByteArray} (hX : OkX X cc own fr lc) (hc : CW y bytes maxL none 0) (hlk : Cond.methodLink own idx y ∈ WALL) (hr : fr' + 1 ≤ fr ∧ 8 + (maxL + 11) + lc' ≤ lc) : CallB X.R X.s X.args own idx y bytes maxL none (wsM y bytes maxL none) (rmG fr' lc' mc ms) mc ms 0 := by
  obtain ⟨c1, c2, c3, c4, c5⟩ := hc
  have hw := hX.2.2.2.1
  refine callB_of (Ts := WALL) (ws' := WALL) 0 hw (fun w h => ?_) rfl rfl rfl (hw _ c2) (hw _ hlk) ⟨c3, c4, c5⟩ (by rw [hX.2.2.2.2.2.1, hX.2.2.2.2.2.2.1]; exact hr)
  rcases List.mem_cons.mp h with h | h
  · subst h
    exact ⟨c1, WALL_good _ c1⟩
  · exact ⟨h, WALL_good _ h⟩
theorem g_initP {idx maxL mc ms fr' lc' q : Nat} {y : MethodName} {bytes : ByteArray} {M' : Mem} (hX : OkX X cc own fr lc) (hG : OkG X (q + 1) kc) (hd : Dc cc pc (.invokespecial idx) 3 pc') (hM : CG X.l y bytes maxL fr' lc' mc ms S q (q + 1 + mc) M M') (hc : CW y bytes maxL none 0) (hnm : y.name = "<init>") (hi : Cond.instanceMethod y ∈ WALL) (hlk : Cond.methodLink own idx y ∈ WALL) (hr : fr' + 1 ≤ fr ∧ 8 + (maxL + 11) + lc' ≤ lc) (hcat : (st.map fun v => v.category).sum ≤ 8) (hk : kc + mc ≤ X.R.cells) (hs : ks + ms ≤ X.R.slots)
    (k : GoN X (cut S (q + 1 + mc)) (q + 1 + mc) (kc + mc) (ks + ms) M' pc' lo st) : GoN X (cut S (q + 1)) (q + 1) kc ks M pc lo (.ref (X.B + q) :: st) := by
  obtain ⟨hd, rfl⟩ := hd
  intro H locs ls h1 h2 h3 h4 T hT X2
  have hz := sz_at hG (Nat.succ_pos q) h1 (by have := X2.same.2.2.1; rw [← hT]; exact this)
  refine va_callv (A1 := fun a => X.B ≤ a) (va_runI (Ts := WALL) (As := []) (rest := st) ⟨hX.1, hX.2.1, h4, hX.2.2.1, hX.2.2.2.1⟩ (hM X.D X.cA X.B) ⟨cgp_of hX hc hlk hr, hnm, hX.2.2.2.1 _ hi⟩ ⟨picg_blind, fun U hU hW => ⟨rfl, picg_at hX hG hz h1 h2 U hU hW⟩⟩ rfl rfl h3.1 rfl (sum8 hcat ls) hd ⟨hk, hs⟩) h2 (fun a _ h => (hG.1 a).mpr h) (fun a h => (hG.1 a).mpr h) (fun u t H1 locs1 ht hal hp hb hz' hkp hS => ?_) T hT X2
  subst ht
  exact k t.heap locs1 ls hb hS h3 h4
end GI
/-! the same rows with the numbers named, for a walk by program -/
def Blk (S : Shp) (q : Nat) (l : List (Nat × Nat)) : Prop := ∀ i c, l[i]? = some c → S (q + i) = c
theorem Blk.sub {S : Shp} {q k : Nat} {l l' : List (Nat × Nat)} (h : Blk S q l) (h2 : (l.drop k).take l'.length = l') : Blk S (q + k) l' := by
  intro i c hc
  have hi := (List.getElem?_eq_some_iff.mp hc).1
  have e : l[k + i]? = some c := by
    rw [← h2, List.getElem?_take, if_pos hi, List.getElem?_drop] at hc
    exact hc
  have := h (k + i) c e
  rwa [← Nat.add_assoc] at this
/-- a table of n rows: cell q's elements are the cells behind it -/
def mulR (M : Mem) (q N : Nat) : Mem := (M.1, M.2.1, fun b j => if b = q ∧ j < N then some (q + 1 + j) else M.2.2 b j)
theorem Z0.mu {M : Mem} {n q N : Nat} (h : Z0 M n) (hq : q < n) : Z0 (mulR M q N) n := fun b hb j =>
  ⟨(h b hb j).1, (h b hb j).2.1, by
    have e : gR (mulR M q N) b j = if b = q ∧ j < N then some (q + 1 + j) else gR M b j := rfl
    rw [e, if_neg (fun z => by have := z.1; omega)]
    exact (h b hb j).2.2⟩
section HR
variable {X : Cx} {cc : ByteArray} {own : String} {fr lc : Nat} {S : Shp} {n n' kc kc' ks ks' : Nat} {M : Mem} {pc pc' tgt : Nat} {lo : List (Option Value)} {st : List Value}
theorem h_new (hX : OkX X cc own fr lc) (hG : OkG X n kc) {idx ci N L : Nat} (hd : Dc cc pc (.new idx) 3 pc') (hc : NC own idx ci N) (hZ : Z0 M n) (hS : S n = (ci, L)) (h1 : n' = n + 1) (h2 : kc' = kc + 1) (h3 : ks' = ks + N) (hk : kc' ≤ X.R.cells) (hs : ks' ≤ X.R.slots) (k : GoN X (cut S n') n' kc' ks' M pc' lo (.ref (X.B + n) :: st)) : GoN X (cut S n) n kc ks M pc lo st := by
  subst h1; subst h2; subst h3
  exact g_new hX hG hd hc hZ hS hk hs k
theorem h_newI (hX : OkX X cc own fr lc) (hG : OkG X n kc) {at0 : ArrayType} {t L : Nat} {v : Int32} {ty : FieldType} (hd : Dc cc pc (.newarray at0) 2 pc') (hty : newarray.typeOf at0 = ty) (ht : tyl[t]? = some ty) (hdv : defaultValue ty = .int 0) (hak : ak t = 0) (hr : ∀ (U : State) (c : ClassId), va_RA U c ty → U.vm.findClass ("[" ++ ty.toString) = some c) (hw : Cond.arrayClass ty ∈ WALL) (hZ : Z0 M n) (hS : S n = (100 + t, L)) (hv : ¬ v < 0) (hL : v.toNatClampNeg = L) (hb : L * componentBytes ty ≤ 536870912) (h1 : n' = n + 1) (h2 : kc' = kc + 1) (h3 : ks' = ks + L) (hk : kc' ≤ X.R.cells) (hs : ks' ≤ X.R.slots) (k : GoN X (cut S n') n' kc' ks' M pc' lo (.ref (X.B + n) :: st)) : GoN X (cut S n) n kc ks M pc lo (.int v :: st) := by
  subst h1; subst h2; subst h3
  exact g_newI hX hG hd hty ht hdv hak hr hw hZ hS hv hL hb hk hs k
theorem h_newL (hX : OkX X cc own fr lc) (hG : OkG X n kc) {L : Nat} {v : Int32} (hd : Dc cc pc (.newarray .long) 2 pc') (hw : Cond.arrayClass .long ∈ WALL) (hZ : Z0 M n) (hS : S n = (101, L)) (hv : ¬ v < 0) (hL : v.toNatClampNeg = L) (hb : L * 8 ≤ 536870912) (h1 : n' = n + 1) (h2 : kc' = kc + 1) (h3 : ks' = ks + L) (hk : kc' ≤ X.R.cells) (hs : ks' ≤ X.R.slots) (k : GoN X (cut S n') n' kc' ks' M pc' lo (.ref (X.B + n) :: st)) : GoN X (cut S n) n kc ks M pc lo (.int v :: st) := by
  subst h1; subst h2; subst h3
  exact g_newL hX hG hd hw hZ hS hv hL hb hk hs k
theorem h_newQ (hX : OkX X cc own fr lc) (hG : OkG X n kc) {idx t L : Nat} {C : String} {v : Int32} (hd : Dc cc pc (.anewarray idx) 3 pc') (ht : tyl[t]? = some (.object C)) (hak : ak t = 2) (hw : Cond.classLink own idx C ∈ WALL) (ho : Cond.arrayOver (.object C) ∈ lw_tbl) (hZ : Z0 M n) (hS : S n = (100 + t, L)) (hv : ¬ v < 0) (hL : v.toNatClampNeg = L) (hb : L * 4 ≤ 536870912) (h1 : n' = n + 1) (h2 : kc' = kc + 1) (h3 : ks' = ks + L) (hk : kc' ≤ X.R.cells) (hs : ks' ≤ X.R.slots) (k : GoN X (cut S n') n' kc' ks' M pc' lo (.ref (X.B + n) :: st)) : GoN X (cut S n) n kc ks M pc lo (.int v :: st) := by
  subst h1; subst h2; subst h3
  exact g_newQ hX hG hd ht hak hw ho hZ hS hv hL hb hk hs k
theorem h_init {n0 : Nat} {host : String} {idx maxL mc ms fr' lc' q : Nat} {y : MethodName} {bytes : ByteArray} {M' : Mem} (hX : OkX X cc own fr lc) (hG : OkG X n0 kc) (h0 : n0 = q + 1) (hd : Dc cc pc (.invokespecial idx) 3 pc') (h1 : n' = q + 1 + mc) (hM : CG X.l y bytes maxL fr' lc' mc ms S q n' M M') (hc : CW y bytes maxL none 0) (hnm : y.name = "<init>") (hi : Cond.instanceMethod y ∈ WALL) (hlk : Cond.methodLinkNest own idx y host ∈ NESTW) (hr : fr' + 1 ≤ fr ∧ 8 + (maxL + 11) + lc' ≤ lc) (hcat : (st.map fun v => v.category).sum ≤ 8) (h2 : kc' = kc + mc) (h3 : ks' = ks + ms) (hk : kc' ≤ X.R.cells) (hs : ks' ≤ X.R.slots)
    (k : GoN X (cut S n') n' kc' ks' M' pc' lo st) : GoN X (cut S n0) n0 kc ks M pc lo (.ref (X.B + q) :: st) := by
  subst h0; subst h1; subst h2; subst h3
  exact g_init hX hG hd hM hc hnm hi hlk hr hcat hk hs k
theorem h_initP {n0 : Nat} {idx maxL mc ms fr' lc' q : Nat} {y : MethodName} {bytes : ByteArray} {M' : Mem} (hX : OkX X cc own fr lc) (hG : OkG X n0 kc) (h0 : n0 = q + 1) (hd : Dc cc pc (.invokespecial idx) 3 pc') (h1 : n' = q + 1 + mc) (hM : CG X.l y bytes maxL fr' lc' mc ms S q n' M M') (hc : CW y bytes maxL none 0) (hnm : y.name = "<init>") (hi : Cond.instanceMethod y ∈ WALL) (hlk : Cond.methodLink own idx y ∈ WALL) (hr : fr' + 1 ≤ fr ∧ 8 + (maxL + 11) + lc' ≤ lc) (hcat : (st.map fun v => v.category).sum ≤ 8) (h2 : kc' = kc + mc) (h3 : ks' = ks + ms) (hk : kc' ≤ X.R.cells) (hs : ks' ≤ X.R.slots)
    (k : GoN X (cut S n') n' kc' ks' M' pc' lo st) : GoN X (cut S n0) n0 kc ks M pc lo (.ref (X.B + q) :: st) := by
  subst h0; subst h1; subst h2; subst h3
  exact g_initP hX hG hd hM hc hnm hi hlk hr hcat hk hs k
theorem h_aast {sh : Shp} (hX : OkX X cc own fr lc) (hn : Fit X sh n) {q qk t ci j : Nat} {i : Int32} {r : vw_C} (hd : Dc cc pc .aastore 1 pc') (hb : aB sh q t i = true) (ht9 : t < 99) (hak : ak t = 2) (ht : tyl[t]? = some (.object r.1)) (hcl : cls[ci]? = some r) (hci : ci < 100) (hq : oB sh qk ci = true) (hj : i.toNatClampNeg = j) (kk : GoN X sh n kc ks (sR M q j (some qk)) pc' lo st) : GoN X sh n kc ks M pc lo (.ref (X.B + qk) :: .int i :: .ref (X.B + q) :: st) := by
  subst hj
  exact g_aast hX hn hd hb ht9 hak ht hcl hci hq kk
theorem h_iast {sh : Shp} (hX : OkX X cc own fr lc) (hn : Fit X sh n) {q j : Nat} {i x : Int32} (hd : Dc cc pc .iastore 1 pc') (hb : aB sh q 0 i = true) (hj : i.toNatClampNeg = j) (kk : GoN X sh n kc ks (sI M q j x) pc' lo st) : GoN X sh n kc ks M pc lo (.int x :: .int i :: .ref (X.B + q) :: st) := by
  subst hj
  exact r_iast hX hn rfl hd hb kk
end HR
