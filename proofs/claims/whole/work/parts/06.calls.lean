/-! CALLS AND CONTRACTS -/
def reg (B n : Nat) : Nat → Prop := fun q => B ≤ q ∧ q < B + n
def PicM (D : va_G) (cA : Nat → ClassId) (B : Nat) (sh : Shp) (n : Nat) (M : Mem) (U : State) : Prop := va_P D cls (wsOf cA B sh n M) U.heap ∧ va_K D cls (tysOf cA) U ∧ Strs cA (reg B n) U U.heap
abbrev Qi (D : va_G) (cA : Nat → ClassId) (B : Nat) (sh : Shp) (n : Nat) (A : Nat → Prop) (res : Mem × Int32) : Array Value → State → Outcome → State → Prop := va_Qi (S := Unit) (fun r _ => r = res.2) (fun _ t => va_P D cls (wsOf cA B sh n res.1) t.heap) A
abbrev Ql (D : va_G) (cA : Nat → ClassId) (B : Nat) (sh : Shp) (n : Nat) (A : Nat → Prop) (res : Mem × Int64) : Array Value → State → Outcome → State → Prop := va_Ql (S := Unit) (fun r _ => r = res.2) (fun _ t => va_P D cls (wsOf cA B sh n res.1) t.heap) A
abbrev Qv (D : va_G) (cA : Nat → ClassId) (B : Nat) (sh : Shp) (n : Nat) (A : Nat → Prop) (res : Mem) : Array Value → State → Outcome → State → Prop := va_Qv (S := Unit) (fun _ => True) (fun _ t => va_P D cls (wsOf cA B sh n res) t.heap) A
abbrev Qr (D : va_G) (cA : Nat → ClassId) (B : Nat) (sh : Shp) (n : Nat) (A : Nat → Prop) (res : Mem × Nat) : Array Value → State → Outcome → State → Prop := va_Qr (S := Unit) (fun _ => True) (fun _ a t => a = B + res.2 ∧ va_P D cls (wsOf cA B sh n res.1) t.heap) A
abbrev rmOf (fr lc : Nat) : Room := { frames := fr, cells := 0, slots := 0, locals := lc }
abbrev wsM (y : MethodName) (bytes : ByteArray) (maxL : Nat) (ret : Option FieldType) : List Cond := Cond.code y bytes maxL ret :: WALL
def Ci (l : Launch) (y : MethodName) (bytes : ByteArray) (maxL : Nat) (ret : Option FieldType) (fr lc : Nat) (sh : Shp) (n : Nat) (av : (Nat → Nat) → Nat → List Value) (M : Mem) (res : Mem × Int32) : Prop :=
  ∀ D cA B, Met l y (wsM y bytes maxL ret) (rmOf fr lc) (va_Pc (av cA B) (PicM D cA B sh n M)) (Qi D cA B sh n (reg B n) res) 0 0 (reg B n)
def Cl (l : Launch) (y : MethodName) (bytes : ByteArray) (maxL : Nat) (ret : Option FieldType) (fr lc : Nat) (sh : Shp) (n : Nat) (av : (Nat → Nat) → Nat → List Value) (M : Mem) (res : Mem × Int64) : Prop :=
  ∀ D cA B, Met l y (wsM y bytes maxL ret) (rmOf fr lc) (va_Pc (av cA B) (PicM D cA B sh n M)) (Ql D cA B sh n (reg B n) res) 0 0 (reg B n)
def Cv (l : Launch) (y : MethodName) (bytes : ByteArray) (maxL : Nat) (ret : Option FieldType) (fr lc : Nat) (sh : Shp) (n : Nat) (av : (Nat → Nat) → Nat → List Value) (M : Mem) (res : Mem) : Prop :=
  ∀ D cA B, Met l y (wsM y bytes maxL ret) (rmOf fr lc) (va_Pc (av cA B) (PicM D cA B sh n M)) (Qv D cA B sh n (reg B n) res) 0 0 (reg B n)
def Cr (l : Launch) (y : MethodName) (bytes : ByteArray) (maxL : Nat) (ret : Option FieldType) (fr lc : Nat) (sh : Shp) (n : Nat) (av : (Nat → Nat) → Nat → List Value) (M : Mem) (res : Mem × Nat) : Prop :=
  ∀ D cA B, Met l y (wsM y bytes maxL ret) (rmOf fr lc) (va_Pc (av cA B) (PicM D cA B sh n M)) (Qr D cA B sh n (reg B n) res) 0 0 (reg B n)
/-- the frame that a body returns to -/
def RetI (X : Cx) (sh : Shp) (n : Nat) (ret : FieldType) (res : Mem × Int32) : Prop := X.Q = MQ X.below (Qi X.D X.cA X.B sh n X.A res) X.args X.s 0 0 X.A ∧ X.meth.sig.returnType = some ret ∧ X.meth.locks = false ∧ X.H0 = X.s.heap
def RetL (X : Cx) (sh : Shp) (n : Nat) (ret : FieldType) (res : Mem × Int64) : Prop := X.Q = MQ X.below (Ql X.D X.cA X.B sh n X.A res) X.args X.s 0 0 X.A ∧ X.meth.sig.returnType = some ret ∧ X.meth.locks = false ∧ X.H0 = X.s.heap
def RetV (X : Cx) (sh : Shp) (n : Nat) (res : Mem) : Prop := X.Q = MQ X.below (Qv X.D X.cA X.B sh n X.A res) X.args X.s 0 0 X.A ∧ X.meth.sig.returnType = none ∧ X.meth.locks = false ∧ X.H0 = X.s.heap
def RetR (X : Cx) (sh : Shp) (n : Nat) (ret : FieldType) (res : Mem × Nat) : Prop := X.Q = MQ X.below (Qr X.D X.cA X.B sh n X.A res) X.args X.s 0 0 X.A ∧ X.meth.sig.returnType = some ret ∧ X.meth.locks = false ∧ X.H0 = X.s.heap
section RT
variable {X : Cx} {cc : ByteArray} {own : String} {fr lc : Nat} {sh : Shp} {n : Nat} {M : Mem} {pc pc' : Nat} {lo : List (Option Value)}
theorem r_iret (hX : OkX X cc own fr lc) {res : Mem × Int32} (hR : RetI X sh n .int res) {v : Int32} (hd : Dc cc pc .ireturn 1 pc') (hf : some (M, v) = some res) : GoN X sh n 0 0 M pc lo [.int v] := by
  cases hf
  obtain ⟨hQ, hr, hlk, h0⟩ := hR
  intro H locs ls h1 h2 h3 h4
  rw [hQ]
  rw [h0] at h2
  exact W.iret hX.1 hX.2.1 hr (fun t ht hW => ⟨⟨v, (), rfl, rfl, by subst ht; exact h1⟩, h2.F ht⟩) h2.2.2 hd.1 hlk
theorem r_zret (hX : OkX X cc own fr lc) {res : Mem × Int32} (hR : RetI X sh n .boolean res) {v : Int32} (hz : isZ v = true) (hd : Dc cc pc .ireturn 1 pc') (hf : some (M, v) = some res) : GoN X sh n 0 0 M pc lo [.int v] := by
  cases hf
  obtain ⟨hQ, hr, hlk, h0⟩ := hR
  intro H locs ls h1 h2 h3 h4
  rw [hQ]
  rw [h0] at h2
  exact W.zret hX.1 hX.2.1 hr (narZ hz) (fun t ht hW => ⟨⟨v, (), rfl, rfl, by subst ht; exact h1⟩, h2.F ht⟩) h2.2.2 hd.1 hlk
theorem r_lret (hX : OkX X cc own fr lc) {res : Mem × Int64} (hR : RetL X sh n .long res) {v : Int64} (hd : Dc cc pc .lreturn 1 pc') (hf : some (M, v) = some res) : GoN X sh n 0 0 M pc lo [.long v] := by
  cases hf
  obtain ⟨hQ, hr, hlk, h0⟩ := hR
  intro H locs ls h1 h2 h3 h4
  rw [hQ]
  rw [h0] at h2
  exact W.lret hX.1 hX.2.1 hr (fun t ht hW => ⟨⟨v, (), rfl, rfl, by subst ht; exact h1⟩, h2.F ht⟩) h2.2.2 hd.1 hlk
theorem r_ret (hX : OkX X cc own fr lc) {res : Mem} (hR : RetV X sh n res) (hd : Dc cc pc .return_ 1 pc') (hf : some M = some res) : GoN X sh n 0 0 M pc lo [] := by
  cases hf
  obtain ⟨hQ, hr, hlk, h0⟩ := hR
  intro H locs ls h1 h2 h3 h4
  rw [hQ]
  rw [h0] at h2
  exact W.vret hX.1 hX.2.1 hr (fun t ht hW => ⟨⟨(), rfl, trivial, by subst ht; exact h1⟩, h2.F ht⟩) h2.2.2 hd.1 hlk
theorem r_aret (hX : OkX X cc own fr lc) {res : Mem × Nat} {nm : String} (hR : RetR X sh n (.object nm) res) {q : Nat} (hd : Dc cc pc .areturn 1 pc') (hf : some (M, q) = some res) : GoN X sh n 0 0 M pc lo [.ref (X.B + q)] := by
  cases hf
  obtain ⟨hQ, hr, hlk, h0⟩ := hR
  intro H locs ls h1 h2 h3 h4
  rw [hQ]
  rw [h0] at h2
  exact W.aret hX.1 hX.2.1 hr (Or.inl ⟨_, rfl⟩) (Or.inr ⟨_, rfl⟩) (fun t ht hW => ⟨⟨(), _, rfl, trivial, rfl, by subst ht; exact h1⟩, h2.F ht⟩) h2.2.2 hd.1 hlk
end RT
section MT
variable {l : Launch} {y : MethodName} {bytes : ByteArray} {maxL fr lc n : Nat} {sh : Shp} {av : (Nat → Nat) → Nat → List Value} {M : Mem} {own : String} {lo : (Nat → Nat) → Nat → List (Option Value)}
theorem reg_fit {X : Cx} (hsz : ∀ q, (sh q).1 ≠ 9999 → q < n) (hA : X.A = reg X.B n) : Fit X sh n := ⟨hsz, fun q hq => by rw [hA]; exact ⟨Nat.le_add_right _ _, Nat.add_lt_add_left hq _⟩⟩
theorem met_go {ret : Option FieldType} {QQ : va_G → (Nat → ClassId) → Nat → Array Value → State → Outcome → State → Prop} (hy : plainFor y = true) (hown : y.cls = own) (hsz : ∀ q, (sh q).1 ≠ 9999 → q < n) (hlen : ∀ K B, (lo K B).length = maxL) (hlo : ∀ K B, lpr 0 (lo K B) = lv_args 0 (av K B)) (hle : ∀ K B, (lg_sl (av K B)).length ≤ maxL)
    (body : ∀ X : Cx, OkX X bytes own fr lc → Fit X sh n → X.l = l → (X.Q = MQ X.below (QQ X.D X.cA X.B) X.args X.s 0 0 X.A ∧ X.A = reg X.B n ∧ X.meth.sig.returnType = ret ∧ X.meth.locks = false ∧ X.H0 = X.s.heap) → GoN X sh n 0 0 M 0 (lo X.cA X.B) []) (D : va_G) (cA : Nat → ClassId) (B : Nat) : Met l y (wsM y bytes maxL ret) (rmOf fr lc) (va_Pc (av cA B) (PicM D cA B sh n M)) (QQ D cA B) 0 0 (reg B n) := by
  refine MetFree.of_bodySF (code := bytes) (maxLocals := maxL) (ret := ret) hy (fun args s m h hn => ?_) (fun p e s m args below meth c s₁ Bd hml hv _ => ?_)
  · obtain ⟨meth, c, h1, h2, h3, h4, h5, h6, -, -⟩ := Cond.code_spec hn (atoms_spec (ws := wsM y bytes maxL ret) h _ List.mem_cons_self)
    exact ⟨meth, c, h1, h2, h3, h4, h5, h6⟩
  obtain ⟨rfl, hP, hK, hSt⟩ := hv
  have hts := atoms_spec (ws := wsM y bytes maxL ret) Bd.pre
  have hw : ∀ w ∈ WALL, w.before (av cA B).toArray s = true := fun w h => hts w (List.mem_cons_of_mem _ h)
  have ho : s.vm.findClass own = some m.cls := by rw [← hown]; exact findClass_of_methodNamed Bd.named
  let X : Cx := (p, l, e, (headSpec (wsM y bytes maxL ret) (rmOf fr lc)).room, s, m, (av cA B).toArray, below, meth, c, MQ below (QQ D cA B) (av cA B).toArray s 0 0 (reg B n), D, cA, B, s.heap, reg B n)
  have hX : OkX X bytes own fr lc := ⟨Bd.exec, Bd.bytes, ho, hw, hK, rfl, rfl, hSt, rfl⟩
  have G := body X hX (reg_fit hsz rfl) rfl ⟨rfl, rfl, Bd.returns, Bd.notSynchronized, rfl⟩
  have hl := lv_entry (av cA B) (n := maxL) (hle cA B)
  rw [← hlo cA B] at hl
  have hl2 : lv_has ((lg_sl (av cA B) ++ List.replicate (maxL - (lg_sl (av cA B)).length) Slot.unset).toArray) (lo cA B).length (lpr 0 (lo cA B)) := by rw [hlen cA B]; exact hl
  have hh0 : s₁.heap = s.heap := by rw [Bd.state]; rfl
  have GG := G s.heap [] _ hP va_S.rf hl2 (by rw [hlen]; exact hml)
  rw [← lg_entry_eq] at GG
  obtain ⟨t, a1, o, b1, b2, b3⟩ := GG s₁ hh0 (Stand.of_body Bd)
  exact ⟨t, o, a1, b1, b2, ⟨b3.1, b3.2⟩⟩
theorem met_i {ty : FieldType} {res : Mem × Int32} (hy : plainFor y = true) (hown : y.cls = own) (hsz : ∀ q, (sh q).1 ≠ 9999 → q < n) (hlen : ∀ K B, (lo K B).length = maxL) (hlo : ∀ K B, lpr 0 (lo K B) = lv_args 0 (av K B)) (hle : ∀ K B, (lg_sl (av K B)).length ≤ maxL)
    (body : ∀ X : Cx, OkX X bytes own fr lc → Fit X sh n → X.l = l → RetI X sh n ty res → GoN X sh n 0 0 M 0 (lo X.cA X.B) []) : Ci l y bytes maxL (some ty) fr lc sh n av M res :=
  met_go (QQ := fun D cA B => Qi D cA B sh n (reg B n) res) hy hown hsz hlen hlo hle (fun X hX hn hl ⟨h1, h2, h3, h4, h5⟩ => body X hX hn hl ⟨by rw [h2] at h1 ⊢; exact h1, h3, h4, h5⟩)
theorem met_l {ty : FieldType} {res : Mem × Int64} (hy : plainFor y = true) (hown : y.cls = own) (hsz : ∀ q, (sh q).1 ≠ 9999 → q < n) (hlen : ∀ K B, (lo K B).length = maxL) (hlo : ∀ K B, lpr 0 (lo K B) = lv_args 0 (av K B)) (hle : ∀ K B, (lg_sl (av K B)).length ≤ maxL)
    (body : ∀ X : Cx, OkX X bytes own fr lc → Fit X sh n → X.l = l → RetL X sh n ty res → GoN X sh n 0 0 M 0 (lo X.cA X.B) []) : Cl l y bytes maxL (some ty) fr lc sh n av M res :=
  met_go (QQ := fun D cA B => Ql D cA B sh n (reg B n) res) hy hown hsz hlen hlo hle (fun X hX hn hl ⟨h1, h2, h3, h4, h5⟩ => body X hX hn hl ⟨by rw [h2] at h1 ⊢; exact h1, h3, h4, h5⟩)
theorem met_v {res : Mem} (hy : plainFor y = true) (hown : y.cls = own) (hsz : ∀ q, (sh q).1 ≠ 9999 → q < n) (hlen : ∀ K B, (lo K B).length = maxL) (hlo : ∀ K B, lpr 0 (lo K B) = lv_args 0 (av K B)) (hle : ∀ K B, (lg_sl (av K B)).length ≤ maxL)
    (body : ∀ X : Cx, OkX X bytes own fr lc → Fit X sh n → X.l = l → RetV X sh n res → GoN X sh n 0 0 M 0 (lo X.cA X.B) []) : Cv l y bytes maxL none fr lc sh n av M res :=
  met_go (QQ := fun D cA B => Qv D cA B sh n (reg B n) res) hy hown hsz hlen hlo hle (fun X hX hn hl ⟨h1, h2, h3, h4, h5⟩ => body X hX hn hl ⟨by rw [h2] at h1 ⊢; exact h1, h3, h4, h5⟩)
theorem met_r {ty : FieldType} {res : Mem × Nat} (hy : plainFor y = true) (hown : y.cls = own) (hsz : ∀ q, (sh q).1 ≠ 9999 → q < n) (hlen : ∀ K B, (lo K B).length = maxL) (hlo : ∀ K B, lpr 0 (lo K B) = lv_args 0 (av K B)) (hle : ∀ K B, (lg_sl (av K B)).length ≤ maxL)
    (body : ∀ X : Cx, OkX X bytes own fr lc → Fit X sh n → X.l = l → RetR X sh n ty res → GoN X sh n 0 0 M 0 (lo X.cA X.B) []) : Cr l y bytes maxL (some ty) fr lc sh n av M res :=
  met_go (QQ := fun D cA B => Qr D cA B sh n (reg B n) res) hy hown hsz hlen hlo hle (fun X hX hn hl ⟨h1, h2, h3, h4, h5⟩ => body X hX hn hl ⟨by rw [h2] at h1 ⊢; exact h1, h3, h4, h5⟩)
end MT
/-- the words of a callee, whoever calls: its code, its class ready, its arguments' number -/
def CW (y : MethodName) (bytes : ByteArray) (maxL : Nat) (ret : Option FieldType) (na : Nat) : Prop := Cond.code y bytes maxL ret ∈ WALL ∧ Cond.initialized y.cls ∈ WALL ∧ y.cls ≠ "java/lang/invoke/MethodHandle" ∧ y.cls ≠ "java/lang/invoke/VarHandle" ∧ (parseMethodDescriptor y.desc).map (fun d => d.parameters.length) = some na
def CWv (y : MethodName) : Prop := Cond.instanceMethod y ∈ WALL ∧ Cond.selects y.cls y y ∈ WALL
section CL
variable {X : Cx} {cc : ByteArray} {own : String} {fr lc : Nat} {sh : Shp} {n kc ks : Nat} {M : Mem} {pc pc' : Nat} {lo : List (Option Value)} {st stk : List Value}
variable {y : MethodName} {bytes : ByteArray} {maxL fr' lc' na idx q : Nat} {ret : Option FieldType} {As : (Nat → Nat) → Nat → List Value}
theorem cb_of (hX : OkX X cc own fr lc) (hc : CW y bytes maxL ret na) (hlk : Cond.methodLink own idx y ∈ WALL) (hr : fr' + 1 ≤ fr ∧ 8 + (maxL + 11) + lc' ≤ lc) : CallB X.R X.s X.args own idx y bytes maxL ret (wsM y bytes maxL ret) (rmOf fr' lc') 0 0 na := by
  obtain ⟨c1, c2, c3, c4, c5⟩ := hc
  have hw := hX.2.2.2.1
  refine callB_of (Ts := WALL) (ws' := WALL) na hw (fun w h => ?_) rfl rfl rfl (hw _ c2) (hw _ hlk) ⟨c3, c4, c5⟩ (by rw [hX.2.2.2.2.2.1, hX.2.2.2.2.2.2.1]; exact hr)
  rcases List.mem_cons.mp h with h | h
  · subst h
    exact ⟨c1, WALL_good _ c1⟩
  · exact ⟨h, WALL_good _ h⟩
theorem pic_blind {D : va_G} {cA : Nat → ClassId} {B : Nat} {av : List Value} : FrameBlind (va_Pc av (PicM D cA B sh n M)) := fun a U g mk q => by
  obtain ⟨q0, qP, qK, qS⟩ := q
  exact ⟨q0, qP, va_K.moved (u := U) (U := U.calling g mk a) (Vm.Alike.refl U.vm) qK, Strs.same (u := U) rfl qS⟩
theorem pic_at (hX : OkX X cc own fr lc) (hA : ∀ q, reg X.B n q → X.A q) {H : Heap} {locs : List Loc} (h1 : va_P X.D cls (wsOf X.cA X.B sh n M) H) (h2 : va_S X.A X.H0 H locs) (U : State) (hU : U.heap = H) (hW : X.s.WarmedH U.vm) : PicM X.D X.cA X.B sh n M U := by
  refine ⟨by rw [hU]; exact h1, va_K.moved hW.alike hX.2.2.2.2.1, ?_⟩
  rw [hU]
  exact (Strs.warm hW (hX.2.2.2.2.2.2.2.1.kept h2.2.1)).narrow hA
theorem sum8 (h : (st.map fun v => v.category).sum ≤ 8) (ls : Array Slot) : 2 * (F0 X.m pc ls stk).monitorRoom + (st.map fun v => v.category).sum ≤ 8 := lv_room h
theorem regA (hn : Fit X sh n) : ∀ q, reg X.B n q → X.A q := fun q h => by
  have := hn.2 (q - X.B) (by have := h.1; have := h.2; omega)
  rwa [Nat.add_sub_cancel' h.1] at this
theorem run_v (hX : OkX X cc own fr lc) (hd : Dc cc pc (.invokevirtual idx) 3 pc') {Qc : Array Value → State → Outcome → State → Prop} (hM : Met X.l y (wsM y bytes maxL ret) (rmOf fr' lc') (va_Pc (.ref (X.B + q) :: As X.cA X.B) (PicM X.D X.cA X.B sh n M)) Qc 0 0 (reg X.B n)) (hc : CW y bytes maxL ret na) (hv : CWv y) (hlk : Cond.methodLink own idx y ∈ WALL) (hr : fr' + 1 ≤ fr ∧ 8 + (maxL + 11) + lc' ≤ lc)
    {ci : Nat} {r : vw_C} (hcl : cls[ci]? = some r) (hrc : r.1 = y.cls) (hci : ci < 100) (hq : oB sh q ci = true) (hqn : q < n) (hst : stk = (As X.cA X.B).reverse ++ .ref (X.B + q) :: st) (hna : (As X.cA X.B).length = na) (hcat : (st.map fun v => v.category).sum ≤ 8)
    {H : Heap} {locs : List Loc} {ls : Array Slot} (hA : ∀ q, reg X.B n q → X.A q) (h1 : va_P X.D cls (wsOf X.cA X.B sh n M) H) (h2 : va_S X.A X.H0 H locs) (hls : ls.size = lo.length) (h4 : X.c.maxLocals = lo.length) (hk : kc ≤ X.R.cells) (hs : ks ≤ X.R.slots) :
    va_Run X.p X.l X.e X.R X.s X.m X.args X.below X.meth X.c H locs kc ks 0 0 (F0 X.m pc ls stk) st (Qc (Value.ref (X.B + q) :: As X.cA X.B).toArray) (reg X.B n) := by
  subst hst
  have he : (wsOf X.cA X.B sh n M)[q]? = some (X.B + q, .inr (ci, fsOf X.B M q (fk ci))) := by rw [ws_get hqn, ce_obj (oB_s hq) hci]
  have hrv := va_recv hX.2.2.2.2.1 h1 hcl he
  rw [hrc] at hrv
  exact va_runV (Ts := WALL) ⟨hX.1, hX.2.1, h4, hX.2.2.1, hX.2.2.2.1⟩ hM ⟨cb_of hX hc hlk hr, hX.2.2.2.1 _ hv.1, hX.2.2.2.1 _ hv.2⟩ ⟨pic_blind, hrv, fun U hU hW => ⟨rfl, pic_at hX hA h1 h2 U hU hW⟩⟩ rfl hna hls rfl (sum8 hcat ls) hd.1 ⟨hk, hs⟩
theorem run_t (hX : OkX X cc own fr lc) (hd : Dc cc pc (.invokevirtual idx) 3 pc') {Qc : Array Value → State → Outcome → State → Prop} {i : Nat} (hi : i < SBYT.length) (hM : Met X.l y (wsM y bytes maxL ret) (rmOf fr' lc') (va_Pc (.ref (X.cA (1000 + i)) :: As X.cA X.B) (PicM X.D X.cA X.B sh n M)) Qc 0 0 (reg X.B n)) (hc : CW y bytes maxL ret na) (hv : CWv y) (hlk : Cond.methodLink own idx y ∈ WALL) (hr : fr' + 1 ≤ fr ∧ 8 + (maxL + 11) + lc' ≤ lc)
    (hrc : y.cls = "java/lang/String") (hst : stk = (As X.cA X.B).reverse ++ .ref (X.cA (1000 + i)) :: st) (hna : (As X.cA X.B).length = na) (hcat : (st.map fun v => v.category).sum ≤ 8)
    {H : Heap} {locs : List Loc} {ls : Array Slot} (hA : ∀ q, reg X.B n q → X.A q) (h1 : va_P X.D cls (wsOf X.cA X.B sh n M) H) (h2 : va_S X.A X.H0 H locs) (hls : ls.size = lo.length) (h4 : X.c.maxLocals = lo.length) (hk : kc ≤ X.R.cells) (hs : ks ≤ X.R.slots) :
    va_Run X.p X.l X.e X.R X.s X.m X.args X.below X.meth X.c H locs kc ks 0 0 (F0 X.m pc ls stk) st (Qc (Value.ref (X.cA (1000 + i)) :: As X.cA X.B).toArray) (reg X.B n) := by
  subst hst
  have hrv : ∃ cell : Cell, H[X.cA (1000 + i)]? = some cell ∧ cell.vm.isStatics = false ∧ X.s.vm.findClass y.cls = some cell.cls := by
    obtain ⟨cell, g1, g2, g3, -⟩ := ((hX.2.2.2.2.2.2.2.1.1 i hi).1).kept h2.2.1
    exact ⟨cell, g1, g2, by rw [hrc]; exact g3⟩
  exact va_runV (Ts := WALL) ⟨hX.1, hX.2.1, h4, hX.2.2.1, hX.2.2.2.1⟩ hM ⟨cb_of hX hc hlk hr, hX.2.2.2.1 _ hv.1, hX.2.2.2.1 _ hv.2⟩ ⟨pic_blind, hrv, fun U hU hW => ⟨rfl, pic_at hX hA h1 h2 U hU hW⟩⟩ rfl hna hls rfl (sum8 hcat ls) hd.1 ⟨hk, hs⟩
theorem run_s (hX : OkX X cc own fr lc) (hd : Dc cc pc (.invokestatic idx) 3 pc') {Qc : Array Value → State → Outcome → State → Prop} (hM : Met X.l y (wsM y bytes maxL ret) (rmOf fr' lc') (va_Pc (As X.cA X.B) (PicM X.D X.cA X.B sh n M)) Qc 0 0 (reg X.B n)) (hc : CW y bytes maxL ret na) (hv : Cond.static y ∈ WALL) (hlk : Cond.methodLink own idx y ∈ WALL) (hr : fr' + 1 ≤ fr ∧ 8 + (maxL + 11) + lc' ≤ lc)
    (hst : stk = (As X.cA X.B).reverse ++ st) (hna : (As X.cA X.B).length = na) (hcat : (st.map fun v => v.category).sum ≤ 8)
    {H : Heap} {locs : List Loc} {ls : Array Slot} (hA : ∀ q, reg X.B n q → X.A q) (h1 : va_P X.D cls (wsOf X.cA X.B sh n M) H) (h2 : va_S X.A X.H0 H locs) (hls : ls.size = lo.length) (h4 : X.c.maxLocals = lo.length) (hk : kc ≤ X.R.cells) (hs : ks ≤ X.R.slots) :
    va_Run X.p X.l X.e X.R X.s X.m X.args X.below X.meth X.c H locs kc ks 0 0 (F0 X.m pc ls stk) st (Qc (As X.cA X.B).toArray) (reg X.B n) := by
  subst hst
  exact va_runS (Ts := WALL) ⟨hX.1, hX.2.1, h4, hX.2.2.1, hX.2.2.2.1⟩ hM ⟨cb_of hX hc hlk hr, hX.2.2.2.1 _ hv⟩ ⟨pic_blind, fun U hU hW => ⟨rfl, pic_at hX hA h1 h2 U hU hW⟩⟩ rfl hna hls rfl (sum8 hcat ls) hd.1 ⟨hk, hs⟩
theorem r_cvi (hX : OkX X cc own fr lc) (hn : Fit X sh n) {res : Mem × Int32} (hM : Ci X.l y bytes maxL ret fr' lc' sh n (fun K B => .ref (B + q) :: As K B) M res) (hd : Dc cc pc (.invokevirtual idx) 3 pc') (hc : CW y bytes maxL ret na) (hv : CWv y) (hlk : Cond.methodLink own idx y ∈ WALL) (hr : fr' + 1 ≤ fr ∧ 8 + (maxL + 11) + lc' ≤ lc)
    {ci : Nat} {r : vw_C} (hcl : cls[ci]? = some r) (hrc : r.1 = y.cls) (hci : ci < 100) (hq : oB sh q ci = true) (hst : stk = (As X.cA X.B).reverse ++ .ref (X.B + q) :: st) (hna : (As X.cA X.B).length = na) (hcat : (st.map fun v => v.category).sum ≤ 8) (hk : kc ≤ X.R.cells ∧ ks ≤ X.R.slots) (k : GoN X sh n kc ks res.1 pc' lo (.int res.2 :: st)) : GoN X sh n kc ks M pc lo stk := by
  intro H locs ls h1 h2 h3 h4
  have hpc := hd.2
  refine va_calli (run_v hX hd (hM X.D X.cA X.B) hc hv hlk hr hcl hrc hci hq (hn.ob hq hci) hst hna hcat (regA hn) h1 h2 (lo := lo) h3.1 h4 hk.1 hk.2) h2 (fun q _ h => regA hn q h) (regA hn) ?_
  intro r0 u t H1 locs1 ht hal hp hb hz hkp hS
  rw [hpc]
  subst hp
  subst ht
  exact k t.heap locs1 ls hb hS h3 h4
theorem r_csi (hX : OkX X cc own fr lc) (hn : Fit X sh n) {res : Mem × Int32} (hM : Ci X.l y bytes maxL ret fr' lc' sh n As M res) (hd : Dc cc pc (.invokestatic idx) 3 pc') (hc : CW y bytes maxL ret na) (hv : Cond.static y ∈ WALL) (hlk : Cond.methodLink own idx y ∈ WALL) (hr : fr' + 1 ≤ fr ∧ 8 + (maxL + 11) + lc' ≤ lc)
    (hst : stk = (As X.cA X.B).reverse ++ st) (hna : (As X.cA X.B).length = na) (hcat : (st.map fun v => v.category).sum ≤ 8) (hk : kc ≤ X.R.cells ∧ ks ≤ X.R.slots) (k : GoN X sh n kc ks res.1 pc' lo (.int res.2 :: st)) : GoN X sh n kc ks M pc lo stk := by
  intro H locs ls h1 h2 h3 h4
  have hpc := hd.2
  refine va_calli (run_s hX hd (hM X.D X.cA X.B) hc hv hlk hr hst hna hcat (regA hn) h1 h2 (lo := lo) h3.1 h4 hk.1 hk.2) h2 (fun q _ h => regA hn q h) (regA hn) ?_
  intro r0 u t H1 locs1 ht hal hp hb hz hkp hS
  rw [hpc]
  subst hp
  subst ht
  exact k t.heap locs1 ls hb hS h3 h4
theorem r_cvl (hX : OkX X cc own fr lc) (hn : Fit X sh n) {res : Mem × Int64} (hM : Cl X.l y bytes maxL ret fr' lc' sh n (fun K B => .ref (B + q) :: As K B) M res) (hd : Dc cc pc (.invokevirtual idx) 3 pc') (hc : CW y bytes maxL ret na) (hv : CWv y) (hlk : Cond.methodLink own idx y ∈ WALL) (hr : fr' + 1 ≤ fr ∧ 8 + (maxL + 11) + lc' ≤ lc)
    {ci : Nat} {r : vw_C} (hcl : cls[ci]? = some r) (hrc : r.1 = y.cls) (hci : ci < 100) (hq : oB sh q ci = true) (hst : stk = (As X.cA X.B).reverse ++ .ref (X.B + q) :: st) (hna : (As X.cA X.B).length = na) (hcat : (st.map fun v => v.category).sum ≤ 8) (hk : kc ≤ X.R.cells ∧ ks ≤ X.R.slots) (k : GoN X sh n kc ks res.1 pc' lo (.long res.2 :: st)) : GoN X sh n kc ks M pc lo stk := by
  intro H locs ls h1 h2 h3 h4
  have hpc := hd.2
  refine va_calll (run_v hX hd (hM X.D X.cA X.B) hc hv hlk hr hcl hrc hci hq (hn.ob hq hci) hst hna hcat (regA hn) h1 h2 (lo := lo) h3.1 h4 hk.1 hk.2) h2 (fun q _ h => regA hn q h) (regA hn) ?_
  intro r0 u t H1 locs1 ht hal hp hb hz hkp hS
  rw [hpc]
  subst hp
  subst ht
  exact k t.heap locs1 ls hb hS h3 h4
theorem r_csl (hX : OkX X cc own fr lc) (hn : Fit X sh n) {res : Mem × Int64} (hM : Cl X.l y bytes maxL ret fr' lc' sh n As M res) (hd : Dc cc pc (.invokestatic idx) 3 pc') (hc : CW y bytes maxL ret na) (hv : Cond.static y ∈ WALL) (hlk : Cond.methodLink own idx y ∈ WALL) (hr : fr' + 1 ≤ fr ∧ 8 + (maxL + 11) + lc' ≤ lc)
    (hst : stk = (As X.cA X.B).reverse ++ st) (hna : (As X.cA X.B).length = na) (hcat : (st.map fun v => v.category).sum ≤ 8) (hk : kc ≤ X.R.cells ∧ ks ≤ X.R.slots) (k : GoN X sh n kc ks res.1 pc' lo (.long res.2 :: st)) : GoN X sh n kc ks M pc lo stk := by
  intro H locs ls h1 h2 h3 h4
  have hpc := hd.2
  refine va_calll (run_s hX hd (hM X.D X.cA X.B) hc hv hlk hr hst hna hcat (regA hn) h1 h2 (lo := lo) h3.1 h4 hk.1 hk.2) h2 (fun q _ h => regA hn q h) (regA hn) ?_
  intro r0 u t H1 locs1 ht hal hp hb hz hkp hS
  rw [hpc]
  subst hp
  subst ht
  exact k t.heap locs1 ls hb hS h3 h4
theorem r_cvv (hX : OkX X cc own fr lc) (hn : Fit X sh n) {res : Mem} (hM : Cv X.l y bytes maxL ret fr' lc' sh n (fun K B => .ref (B + q) :: As K B) M res) (hd : Dc cc pc (.invokevirtual idx) 3 pc') (hc : CW y bytes maxL ret na) (hv : CWv y) (hlk : Cond.methodLink own idx y ∈ WALL) (hr : fr' + 1 ≤ fr ∧ 8 + (maxL + 11) + lc' ≤ lc)
    {ci : Nat} {r : vw_C} (hcl : cls[ci]? = some r) (hrc : r.1 = y.cls) (hci : ci < 100) (hq : oB sh q ci = true) (hst : stk = (As X.cA X.B).reverse ++ .ref (X.B + q) :: st) (hna : (As X.cA X.B).length = na) (hcat : (st.map fun v => v.category).sum ≤ 8) (hk : kc ≤ X.R.cells ∧ ks ≤ X.R.slots) (k : GoN X sh n kc ks res pc' lo (st)) : GoN X sh n kc ks M pc lo stk := by
  intro H locs ls h1 h2 h3 h4
  have hpc := hd.2
  refine va_callv (run_v hX hd (hM X.D X.cA X.B) hc hv hlk hr hcl hrc hci hq (hn.ob hq hci) hst hna hcat (regA hn) h1 h2 (lo := lo) h3.1 h4 hk.1 hk.2) h2 (fun q _ h => regA hn q h) (regA hn) ?_
  intro u t H1 locs1 ht hal hp hb hz hkp hS
  rw [hpc]
  skip
  subst ht
  exact k t.heap locs1 ls hb hS h3 h4
theorem r_csv (hX : OkX X cc own fr lc) (hn : Fit X sh n) {res : Mem} (hM : Cv X.l y bytes maxL ret fr' lc' sh n As M res) (hd : Dc cc pc (.invokestatic idx) 3 pc') (hc : CW y bytes maxL ret na) (hv : Cond.static y ∈ WALL) (hlk : Cond.methodLink own idx y ∈ WALL) (hr : fr' + 1 ≤ fr ∧ 8 + (maxL + 11) + lc' ≤ lc)
    (hst : stk = (As X.cA X.B).reverse ++ st) (hna : (As X.cA X.B).length = na) (hcat : (st.map fun v => v.category).sum ≤ 8) (hk : kc ≤ X.R.cells ∧ ks ≤ X.R.slots) (k : GoN X sh n kc ks res pc' lo (st)) : GoN X sh n kc ks M pc lo stk := by
  intro H locs ls h1 h2 h3 h4
  have hpc := hd.2
  refine va_callv (run_s hX hd (hM X.D X.cA X.B) hc hv hlk hr hst hna hcat (regA hn) h1 h2 (lo := lo) h3.1 h4 hk.1 hk.2) h2 (fun q _ h => regA hn q h) (regA hn) ?_
  intro u t H1 locs1 ht hal hp hb hz hkp hS
  rw [hpc]
  skip
  subst ht
  exact k t.heap locs1 ls hb hS h3 h4
theorem r_cvr (hX : OkX X cc own fr lc) (hn : Fit X sh n) {res : Mem × Nat} (hM : Cr X.l y bytes maxL ret fr' lc' sh n (fun K B => .ref (B + q) :: As K B) M res) (hd : Dc cc pc (.invokevirtual idx) 3 pc') (hc : CW y bytes maxL ret na) (hv : CWv y) (hlk : Cond.methodLink own idx y ∈ WALL) (hr : fr' + 1 ≤ fr ∧ 8 + (maxL + 11) + lc' ≤ lc)
    {ci : Nat} {r : vw_C} (hcl : cls[ci]? = some r) (hrc : r.1 = y.cls) (hci : ci < 100) (hq : oB sh q ci = true) (hst : stk = (As X.cA X.B).reverse ++ .ref (X.B + q) :: st) (hna : (As X.cA X.B).length = na) (hcat : (st.map fun v => v.category).sum ≤ 8) (hk : kc ≤ X.R.cells ∧ ks ≤ X.R.slots) (k : GoN X sh n kc ks res.1 pc' lo (.ref (X.B + res.2) :: st)) : GoN X sh n kc ks M pc lo stk := by
  intro H locs ls h1 h2 h3 h4
  have hpc := hd.2
  refine va_callr (run_v hX hd (hM X.D X.cA X.B) hc hv hlk hr hcl hrc hci hq (hn.ob hq hci) hst hna hcat (regA hn) h1 h2 (lo := lo) h3.1 h4 hk.1 hk.2) h2 (fun q _ h => regA hn q h) (regA hn) ?_
  intro u ra t H1 locs1 ht hal hp hb hz hkp hS
  rw [hpc]
  obtain ⟨rfl, hb⟩ := hb
  subst ht
  exact k t.heap locs1 ls hb hS h3 h4
theorem r_csr (hX : OkX X cc own fr lc) (hn : Fit X sh n) {res : Mem × Nat} (hM : Cr X.l y bytes maxL ret fr' lc' sh n As M res) (hd : Dc cc pc (.invokestatic idx) 3 pc') (hc : CW y bytes maxL ret na) (hv : Cond.static y ∈ WALL) (hlk : Cond.methodLink own idx y ∈ WALL) (hr : fr' + 1 ≤ fr ∧ 8 + (maxL + 11) + lc' ≤ lc)
    (hst : stk = (As X.cA X.B).reverse ++ st) (hna : (As X.cA X.B).length = na) (hcat : (st.map fun v => v.category).sum ≤ 8) (hk : kc ≤ X.R.cells ∧ ks ≤ X.R.slots) (k : GoN X sh n kc ks res.1 pc' lo (.ref (X.B + res.2) :: st)) : GoN X sh n kc ks M pc lo stk := by
  intro H locs ls h1 h2 h3 h4
  have hpc := hd.2
  refine va_callr (run_s hX hd (hM X.D X.cA X.B) hc hv hlk hr hst hna hcat (regA hn) h1 h2 (lo := lo) h3.1 h4 hk.1 hk.2) h2 (fun q _ h => regA hn q h) (regA hn) ?_
  intro u ra t H1 locs1 ht hal hp hb hz hkp hS
  rw [hpc]
  obtain ⟨rfl, hb⟩ := hb
  subst ht
  exact k t.heap locs1 ls hb hS h3 h4
theorem r_cti (hX : OkX X cc own fr lc) (hn : Fit X sh n) {i : Nat} (hi : i < SBYT.length) {res : Mem × Int32} (hM : Ci X.l y bytes maxL ret fr' lc' sh n (fun K B => .ref (K (1000 + i)) :: As K B) M res) (hd : Dc cc pc (.invokevirtual idx) 3 pc') (hc : CW y bytes maxL ret na) (hv : CWv y) (hlk : Cond.methodLink own idx y ∈ WALL) (hr : fr' + 1 ≤ fr ∧ 8 + (maxL + 11) + lc' ≤ lc)
    (hrc : y.cls = "java/lang/String") (hst : stk = (As X.cA X.B).reverse ++ .ref (X.cA (1000 + i)) :: st) (hna : (As X.cA X.B).length = na) (hcat : (st.map fun v => v.category).sum ≤ 8) (hk : kc ≤ X.R.cells ∧ ks ≤ X.R.slots) (k : GoN X sh n kc ks res.1 pc' lo (.int res.2 :: st)) : GoN X sh n kc ks M pc lo stk := by
  intro H locs ls h1 h2 h3 h4
  have hpc := hd.2
  refine va_calli (run_t hX hd hi (hM X.D X.cA X.B) hc hv hlk hr hrc hst hna hcat (regA hn) h1 h2 (lo := lo) h3.1 h4 hk.1 hk.2) h2 (fun q _ h => regA hn q h) (regA hn) ?_
  intro r0 u t H1 locs1 ht hal hp hb hz hkp hS
  rw [hpc]
  subst hp
  subst ht
  exact k t.heap locs1 ls hb hS h3 h4
end CL
