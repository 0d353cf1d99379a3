/-! GROWING: a shape cut at n; new cells; constructors' calls -/
def cut (S : Shp) (n : Nat) : Shp := fun q => if q < n then S q else (9999, 0)
theorem cut_i {S : Shp} {n q : Nat} (h : q < n) : cut S n q = S q := if_pos h
theorem cut_x {S : Shp} {n q : Nat} (h : (cut S n q).1 ≠ 9999) : q < n := by
  unfold cut at h
  by_cases hq : q < n
  · exact hq
  · rw [if_neg hq] at h
    exact absurd rfl h
theorem cut_o {S : Shp} {n q ci L : Nat} (h : S q = (ci, L)) (hq : q < n) : oB (cut S n) q ci = true := by
  unfold oB
  rw [cut_i hq, h]
  exact beq_self_eq_true ci
theorem cut_a {S : Shp} {n q t L : Nat} {i : Int32} (h : S q = (100 + t, L)) (hq : q < n) (hi : inb i L = true) : aB (cut S n) q t i = true := by
  unfold aB
  rw [cut_i hq, h, hi, beq_self_eq_true]
  rfl
def Z0 (M : Mem) (n : Nat) : Prop := ∀ q, n ≤ q → ∀ k, gI M q k = 0 ∧ gL M q k = 0 ∧ gR M q k = none
theorem Z0.m {M : Mem} {n n' : Nat} (h : Z0 M n) (hn : n ≤ n') : Z0 M n' := fun q hq => h q (Nat.le_trans hn hq)
theorem Z0.i {M : Mem} {n q k : Nat} {v : Int32} (h : Z0 M n) (hq : q < n) : Z0 (sI M q k v) n := fun b hb j =>
  ⟨by rw [gI_sI, if_neg (fun z => by have := z.1; omega)]; exact (h b hb j).1, (h b hb j).2.1, (h b hb j).2.2⟩
theorem Z0.r {M : Mem} {n q k : Nat} {v : Option Nat} (h : Z0 M n) (hq : q < n) : Z0 (sR M q k v) n := fun b hb j =>
  ⟨(h b hb j).1, (h b hb j).2.1, by rw [gR_sR, if_neg (fun z => by have := z.1; omega)]; exact (h b hb j).2.2⟩
theorem cellE_sh {cA : Nat → ClassId} {B : Nat} {sh sh' : Shp} {M : Mem} {q : Nat} (h : sh q = sh' q) : cellE cA B sh M q = cellE cA B sh' M q := by
  unfold cellE
  rw [h]
theorem ws_sh {cA : Nat → ClassId} {B : Nat} {sh sh' : Shp} {n : Nat} {M : Mem} (h : ∀ q, q < n → sh q = sh' q) : wsOf cA B sh n M = wsOf cA B sh' n M := by
  unfold wsOf
  exact List.map_congr_left (fun q hq => by rw [cellE_sh (h q (List.mem_range.mp hq))])
theorem ws_cut {cA : Nat → ClassId} {B : Nat} {S : Shp} {n : Nat} {M : Mem} : wsOf cA B (cut S (n + 1)) (n + 1) M = wsOf cA B (cut S n) n M ++ [(B + n, cellE cA B S M n)] := by
  rw [ws_sh (sh := cut S (n + 1)) (sh' := S) (fun q h => cut_i h), ws_sh (sh := cut S n) (sh' := S) (fun q h => cut_i h)]
  unfold wsOf
  rw [List.range_succ, List.map_append]
  rfl
def dv : Nat → Value
  | 0 => .int 0
  | 1 => .long 0
  | _ + 2 => .null
theorem fsV_z {B : Nat} {M : Mem} {n k t : Nat} (h : Z0 M n) : fsV B M n k t = dv t := by
  obtain ⟨h1, h2, h3⟩ := h n (Nat.le_refl n) k
  match t with
  | 0 => simp [fsV, dv, h1]
  | 1 => simp [fsV, dv, h2]
  | _ + 2 => simp [fsV, dv, h3, va_rf]
/-- the words of 'new' -/
def NC (own : String) (idx ci N : Nat) : Prop := ∃ (r : vw_C) (ty : Nat → FieldType), cls[ci]? = some r ∧ (∀ w ∈ u_ws r.1 r.2.1 r.2.2, w ∈ WALL) ∧ (∀ k, k < r.2.2 → parseFieldDescriptor (r.2.1 k).2.2.1 = some (ty k)) ∧ Cond.classLink own idx r.1 ∈ WALL ∧ Cond.instantiable r.1 r.2.2 ∈ WALL ∧ Cond.initialized r.1 ∈ WALL ∧ ci < 100 ∧ r.2.2 = N ∧ ∀ j, j < N → ∃ t, (fk ci)[j]? = some t ∧ defaultValue (ty j) = dv t
/-- a final field, its type -/
def FPF (ci k : Nat) (ty : FieldType) : Prop := ∃ (r : vw_C) (ty0 : Nat → FieldType), cls[ci]? = some r ∧ (∀ j, j < r.2.2 → parseFieldDescriptor (r.2.1 j).2.2.1 = some (ty0 j)) ∧ (∀ a, a < r.2.2 → ∀ b, b < r.2.2 → a ≠ b → (r.2.1 a).2.1 ≠ (r.2.1 b).2.1) ∧ (r.2.1 k).2.2.2 = true ∧ parseFieldDescriptor (r.2.1 k).2.2.1 = some ty
/-- words that hold of a start, and aren't good words: nest mates' constructors, arrays of references -/
def NESTW : List Cond := lw_tbl.filter (fun w => match w with | .methodLinkNest .. => true | _ => false)
/-- the word for rows of rows of ints -/
def AOA (U : State) : Prop := (Cond.arrayOver (.array .int)).before #[] U = true
theorem AOA.moved {u U : State} (hvm : u.vm.Alike U.vm) (h : AOA u) : AOA U := by
  obtain ⟨comp, c, k, h1, h2, h3, h4, h5⟩ := arrayOverA_spec (args := #[]) (first := u) (o := none) (idx := []) h
  obtain ⟨k', hk', he⟩ := hvm.2.2 _ _ h3
  have hi : (U.vm.classes.findIdx? fun (x : Class) => match x.kind with | .array component _ => component == comp | _ => false) = some c := by
    have e : U.vm.bare = u.vm.bare := by first | exact hvm.bare_eq | exact hvm.bare_eq.symm
    have a := va_idx_bare U.vm comp
    have b := va_idx_bare u.vm comp
    rw [e] at a
    exact a.symm.trans (b.trans h2)
  have hkind : k'.kind = .array comp (.array .int) := by rw [he]; exact h4
  have f1 : U.vm.findClass (FieldType.array .int).toString = some comp := by rw [hvm.findClass]; exact h1
  have f2 : U.vm.findClass ("[" ++ (FieldType.array .int).toString) = some c := by rw [hvm.findClass]; exact h5
  unfold AOA Cond.before Cond.holds
  simp only [Cond.value]
  rw [f1, Option.bind_some]
  refine (congrArg (fun o : Option Nat => (o.bind (fun c => (U.vm.classes[c]?).map fun (k : Class) => match k.kind with | .array _ ty => decide (ty = FieldType.array .int) && decide (U.vm.findClass ("[" ++ (FieldType.array .int).toString) = some c) | _ => false) == some true)) hi).trans ?_
  simp [hk', hkind, f2]
def Nst (U : State) : Prop := (∀ a i x h, Cond.methodLinkNest a i x h ∈ NESTW → va_Nw (.methodLinkNest a i x h) U) ∧ (∀ C, Cond.arrayOver (.object C) ∈ lw_tbl → va_AO C U) ∧ AOA U
theorem Nst.warm {s U : State} (hW : s.WarmedH U.vm) (h : Nst s) : Nst U := ⟨fun a i x g hw => va_Nw.warmM hW (h.1 a i x g hw), fun C hw => (h.2.1 C hw).moved hW.alike, h.2.2.moved hW.alike⟩
theorem Nst.same {u U : State} (hv : U.vm = u.vm) (h : Nst u) : Nst U := ⟨fun a i x g hw => va_Nw.same rfl hv.symm (h.1 a i x g hw), fun C hw => (h.2.1 C hw).moved (by rw [hv]; exact Vm.Alike.refl _), h.2.2.moved (by rw [hv]; exact Vm.Alike.refl _)⟩
def PicG (D : va_G) (cA : Nat → ClassId) (B : Nat) (S : Shp) (n : Nat) (M : Mem) (U : State) : Prop := U.heap.size = B + n ∧ va_P D cls (wsOf cA B (cut S n) n M) U.heap ∧ va_K D cls (tysOf cA) U ∧ Strs cA (fun a => B ≤ a) U U.heap ∧ Nst U
abbrev QG (D : va_G) (cA : Nat → ClassId) (B : Nat) (S : Shp) (n : Nat) (M : Mem) : Array Value → State → Outcome → State → Prop := va_Qv (S := Unit) (fun _ => True) (fun _ t => va_P D cls (wsOf cA B (cut S n) n M) t.heap) (fun a => B ≤ a)
abbrev rmG (fr lc mc ms : Nat) : Room := { frames := fr, cells := mc, slots := ms, locals := lc }
def CG (l : Launch) (y : MethodName) (bytes : ByteArray) (maxL fr lc mc ms : Nat) (S : Shp) (q n : Nat) (M M' : Mem) : Prop :=
  ∀ D cA B, Met l y (wsM y bytes maxL none) (rmG fr lc mc ms) (va_Pc [.ref (B + q)] (PicG D cA B S (q + 1) M)) (QG D cA B S n M') mc ms (fun a => B ≤ a)
/-- a constructor's body at work: the region from B on is its own; kc cells more than at the start -/
def OkG (X : Cx) (n kc : Nat) : Prop := (∀ a, X.A a ↔ X.B ≤ a) ∧ X.s.heap.size + kc = X.B + n ∧ X.B ≤ X.s.heap.size ∧ Nst X.s
theorem OkG.up {X : Cx} {n kc : Nat} (h : OkG X n kc) (k : Nat) : OkG X (n + k) (kc + k) := ⟨h.1, by have := h.2.1; omega, h.2.2⟩
theorem OkG.fit {X : Cx} {n kc : Nat} (h : OkG X n kc) {S : Shp} : Fit X (cut S n) n := ⟨fun _ hq => cut_x hq, fun _ _ => (h.1 _).mpr (Nat.le_add_right _ _)⟩
theorem new_at {X : Cx} {sh : Shp} {n kc : Nat} {M : Mem} (hG : OkG X n kc) {q : Nat} {e : va_E} {H1 : Heap} (hP : va_P X.D cls (wsOf X.cA X.B sh n M ++ [(q, e)]) H1) (hD : va_D X.A (wsOf X.cA X.B sh n M ++ [(q, e)])) (hs : H1.size ≤ X.s.heap.size + (kc + 1)) : q = X.B + n := by
  have hl : (wsOf X.cA X.B sh n M).length = n := ws_len
  have hg : (wsOf X.cA X.B sh n M ++ [(q, e)])[n]? = some (q, e) := by
    rw [List.getElem?_append_right (by omega), hl, Nat.sub_self]
    rfl
  have h1 : q < H1.size := (hP n _ hg).lt
  have h2 : X.B ≤ q := (hG.1 _).mp (hD.2 n _ hg)
  have h3 := hG.2.1
  rcases Nat.lt_or_ge q (X.B + n) with h | h
  · exfalso
    have hj : (wsOf X.cA X.B sh n M ++ [(q, e)])[q - X.B]? = some (X.B + (q - X.B), cellE X.cA X.B sh M (q - X.B)) := by
      rw [List.getElem?_append_left (by rw [hl]; omega), ws_get (by omega)]
    have := hD.1 _ _ _ _ hj hg (show X.B + (q - X.B) = q by omega)
    omega
  · omega
theorem sz_at {X : Cx} {sh : Shp} {n kc : Nat} {M : Mem} (hG : OkG X n kc) (hn : 0 < n) {H : Heap} (hP : va_P X.D cls (wsOf X.cA X.B sh n M) H) (hs : H.size ≤ X.s.heap.size + kc) : H.size = X.B + n := by
  have h1 : X.B + (n - 1) < H.size := (hP (n - 1) _ (ws_get (by omega))).lt
  have h3 := hG.2.1
  omega
section GR
variable {X : Cx} {cc : ByteArray} {own : String} {fr lc : Nat} {S : Shp} {n kc ks : Nat} {M : Mem} {pc pc' tgt : Nat} {lo : List (Option Value)} {st : List Value}
theorem g_new (hX : OkX X cc own fr lc) (hG : OkG X n kc) {idx ci N L : Nat} (hd : Dc cc pc (.new idx) 3 pc') (hc : NC own idx ci N) (hZ : Z0 M n) (hS : S n = (ci, L)) (hk : kc + 1 ≤ X.R.cells) (hs : ks + N ≤ X.R.slots) (k : GoN X (cut S (n + 1)) (n + 1) (kc + 1) (ks + N) M pc' lo (.ref (X.B + n) :: st)) : GoN X (cut S n) n kc ks M pc lo st := by
  obtain ⟨hd, rfl⟩ := hd
  obtain ⟨⟨C, T, N'⟩, ty, c1, c2, c3, c4, c5, c6, c7, c8, c9⟩ := hc
  have c8 : N' = N := c8
  subst c8
  intro H locs ls h1 h2 h3 h4
  refine va_new (fs := fsOf X.B M n (fk ci)) hX.1 hX.2.1 hX.2.2.2.1 c2 ty c3 hX.2.2.1 (hX.2.2.2.1 _ c4) (hX.2.2.2.1 _ c5) (hX.2.2.2.1 _ c6) hX.2.2.2.2.1 h1 (ws_D (fun q _ => (hG.1 _).mpr (Nat.le_add_right _ _))) h2 (fun q hq => (hG.1 q).mpr (Nat.le_trans hG.2.2.1 (by rw [← hX.2.2.2.2.2.2.2.2]; exact hq))) c1 (fun j hj => ?_) hk hs hd (fun q H1 hP hD hS' => ?_)
  · obtain ⟨t, t1, t2⟩ := c9 j hj
    rw [t2]
    show dv t = (fsOf X.B M n (fk ci)).getD j Value.null
    rw [List.getD_eq_getElem?_getD, fs_get t1, fsV_z hZ]
    rfl
  · intro T hT X2
    have e := new_at hG hP hD (by have := X2.same.2.2.1; rw [← hT]; exact this)
    subst e
    refine k H1 locs ls ?_ hS' h3 h4 T hT X2
    rw [ws_cut, ce_obj (by rw [hS]) c7]
    exact hP
theorem Z0.fI (h : Z0 M n) : (fun j => gI M n j) = (fun _ => 0) := funext fun j => (h n (Nat.le_refl n) j).1
theorem Z0.fL (h : Z0 M n) : (fun j => gL M n j) = (fun _ => 0) := funext fun j => (h n (Nat.le_refl n) j).2.1
theorem Z0.fR {B : Nat} (h : Z0 M n) : (fun j => (gR M n j).map (B + ·)) = (fun _ => none) := funext fun j => by rw [(h n (Nat.le_refl n) j).2.2]; rfl
theorem ty_one (hX : OkX X cc own fr lc) {t : Nat} {ty : FieldType} {cA' : ClassId} (ht : tyl[t]? = some ty) (hr : ∀ (U : State) (c : ClassId), va_RA U c ty → U.vm.findClass ("[" ++ ty.toString) = some c) (hK : va_K X.D cls (tysOf X.cA ++ [(cA', ty)]) X.s) : cA' = X.cA t := by
  have h1 := hr _ _ (hX.2.2.2.2.1.2 t _ (tys_get ht)).2
  have h2 := hr _ _ (hK.2 (tysOf X.cA).length (cA', ty) (by rw [List.getElem?_append_right (Nat.le_refl _), Nat.sub_self]; rfl)).2
  exact Option.some.inj (h2.symm.trans h1)
theorem g_newI (hX : OkX X cc own fr lc) (hG : OkG X n kc) {at0 : ArrayType} {t L : Nat} {v : Int32} {ty : FieldType} (hd : Dc cc pc (.newarray at0) 2 pc') (hty : newarray.typeOf at0 = ty) (ht : tyl[t]? = some ty) (hdv : defaultValue ty = .int 0) (hak : ak t = 0) (hr : ∀ (U : State) (c : ClassId), va_RA U c ty → U.vm.findClass ("[" ++ ty.toString) = some c) (hw : Cond.arrayClass ty ∈ WALL) (hZ : Z0 M n) (hS : S n = (100 + t, L)) (hv : ¬ v < 0) (hL : v.toNatClampNeg = L) (hb : L * componentBytes ty ≤ 536870912) (hk : kc + 1 ≤ X.R.cells) (hs : ks + L ≤ X.R.slots) (k : GoN X (cut S (n + 1)) (n + 1) (kc + 1) (ks + L) M pc' lo (.ref (X.B + n) :: st)) : GoN X (cut S n) n kc ks M pc lo (.int v :: st) := by
  obtain ⟨hd, rfl⟩ := hd
  intro H locs ls h1 h2 h3 h4
  refine va_newa (ty := ty) (a0 := (L, .inl (fun _ => 0))) hX.1 hX.2.1 (by rw [hty]; exact hX.2.2.2.1 _ hw) hty hX.2.2.2.2.1 h1 (ws_D (fun q _ => (hG.1 _).mpr (Nat.le_add_right _ _))) h2 (fun q hq => (hG.1 q).mpr (Nat.le_trans hG.2.2.1 (by rw [← hX.2.2.2.2.2.2.2.2]; exact hq))) (fun cA => by rw [hdv]; rfl) hv hL hb hk hs hd (fun q cA' H1 hK hP hD hS' => ?_)
  intro T hT X2
  have e := new_at hG hP hD (by have := X2.same.2.2.1; rw [← hT]; exact this)
  subst e
  have e := ty_one hX ht hr hK
  subst e
  refine k H1 locs ls ?_ hS' h3 h4 T hT X2
  rw [ws_cut, ce_arr (by rw [hS]), hak, ar0, hZ.fI, hS]
  exact hP
theorem g_newL (hX : OkX X cc own fr lc) (hG : OkG X n kc) {L : Nat} {v : Int32} (hd : Dc cc pc (.newarray .long) 2 pc') (hw : Cond.arrayClass .long ∈ WALL) (hZ : Z0 M n) (hS : S n = (101, L)) (hv : ¬ v < 0) (hL : v.toNatClampNeg = L) (hb : L * 8 ≤ 536870912) (hk : kc + 1 ≤ X.R.cells) (hs : ks + L ≤ X.R.slots) (k : GoN X (cut S (n + 1)) (n + 1) (kc + 1) (ks + L) M pc' lo (.ref (X.B + n) :: st)) : GoN X (cut S n) n kc ks M pc lo (.int v :: st) := by
  obtain ⟨hd, rfl⟩ := hd
  intro H locs ls h1 h2 h3 h4
  refine va_newa (atype := .long) (ty := .long) (a0 := (L, .inr (.inl (fun _ => 0)))) hX.1 hX.2.1 (hX.2.2.2.1 _ hw) rfl hX.2.2.2.2.1 h1 (ws_D (fun q _ => (hG.1 _).mpr (Nat.le_add_right _ _))) h2 (fun q hq => (hG.1 q).mpr (Nat.le_trans hG.2.2.1 (by rw [← hX.2.2.2.2.2.2.2.2]; exact hq))) (fun cA => rfl) hv hL hb hk hs hd (fun q cA' H1 hK hP hD hS' => ?_)
  intro T hT X2
  have e := new_at hG hP hD (by have := X2.same.2.2.1; rw [← hT]; exact this)
  subst e
  have e := ty_one (t := 1) hX rfl (fun _ _ h => h) hK
  subst e
  refine k H1 locs ls ?_ hS' h3 h4 T hT X2
  rw [ws_cut, ce_arr (t := 1) (by rw [hS]), show ak 1 = 1 from rfl, ar1, hZ.fL, hS]
  exact hP
theorem ra_obj {U : State} {c : ClassId} {C : String} (h : va_RA U c (.object C)) : U.vm.findClass ("[" ++ (FieldType.object C).toString) = some c := by
  obtain ⟨_, _, _, _, _, h⟩ := h
  exact h
theorem g_newQ (hX : OkX X cc own fr lc) (hG : OkG X n kc) {idx t L : Nat} {C : String} {v : Int32} (hd : Dc cc pc (.anewarray idx) 3 pc') (ht : tyl[t]? = some (.object C)) (hak : ak t = 2) (hw : Cond.classLink own idx C ∈ WALL) (ho : Cond.arrayOver (.object C) ∈ lw_tbl) (hZ : Z0 M n) (hS : S n = (100 + t, L)) (hv : ¬ v < 0) (hL : v.toNatClampNeg = L) (hb : L * 4 ≤ 536870912) (hk : kc + 1 ≤ X.R.cells) (hs : ks + L ≤ X.R.slots) (k : GoN X (cut S (n + 1)) (n + 1) (kc + 1) (ks + L) M pc' lo (.ref (X.B + n) :: st)) : GoN X (cut S n) n kc ks M pc lo (.int v :: st) := by
  obtain ⟨hd, rfl⟩ := hd
  intro H locs ls h1 h2 h3 h4
  refine va_newq hX.1 hX.2.1 hX.2.2.1 (hX.2.2.2.1 _ hw) (hG.2.2.2.2.1 C ho) hX.2.2.2.2.1 h1 (ws_D (fun q _ => (hG.1 _).mpr (Nat.le_add_right _ _))) h2 (fun q hq => (hG.1 q).mpr (Nat.le_trans hG.2.2.1 (by rw [← hX.2.2.2.2.2.2.2.2]; exact hq))) hv hL hb hk hs hd (fun q cA' H1 hK hP hD hS' => ?_)
  intro T hT X2
  have e := new_at hG hP hD (by have := X2.same.2.2.1; rw [← hT]; exact this)
  subst e
  have e := ty_one hX ht (fun _ _ h => ra_obj h) hK
  subst e
  refine k H1 locs ls ?_ hS' h3 h4 T hT X2
  rw [ws_cut, ce_arr (by rw [hS]), hak, ar2, hZ.fR, hS]
  exact hP
theorem g_putRF {sh : Shp} (hX : OkX X cc own fr lc) (hn : Fit X sh n) (hin : X.meth.name = "<init>") {idx ci k q r : Nat} {ty : FieldType} (hd : Dc cc pc (.putfield idx) 3 pc') (hf : FL own idx ci k) (hp : FPF ci k ty) (hdc : ∀ r, cls[ci]? = some r → r.1 = own) (hk : (fk ci)[k]? = some 2) (hq : oB sh q ci = true) (hna : narrow ty (.ref (X.B + r)) = .ref (X.B + r)) (hfi : fits ty (.ref (X.B + r)) = true) (kk : GoN X sh n kc ks (sR M q k (some r)) pc' lo st) : GoN X sh n kc ks M pc lo (.ref (X.B + r) :: .ref (X.B + q) :: st) := by
  have hqn := hn.ob hq hf.lt
  have hqc := oB_s hq
  obtain ⟨hd, rfl⟩ := hd
  obtain ⟨⟨C, T, N⟩, f1, f2, f3, f4, f5, f6⟩ := hf
  obtain ⟨r', ty0, g1, g2, g3, g4, g5⟩ := hp
  cases f1.symm.trans g1
  intro H locs ls h1 h2 h3 h4
  have he : (wsOf X.cA X.B sh n M)[q]? = some (X.B + q, .inr (ci, fsOf X.B M q (fk ci))) := by rw [ws_get hqn, ce_obj hqc f6]
  have f4' : (T k).1 = C := f4
  have hC : C = own := hdc _ f1
  refine va_putF hX.1 hX.2.1 hX.2.2.2.1 f3 ty0 g2 g3 hX.2.2.1 hX.2.2.2.2.1 h1 (ws_D hn.2) h2 q he f1 k f2 (hX.2.2.2.1 _ f5) (fun x hx => ?_) g4 hin (f4'.trans hC) g5 hna hfi (by rw [fs_len]; exact (List.getElem?_eq_some_iff.mp hk).1) hd (fun H1 locs1 hP hD hS => ?_)
  · rw [← f4']
    exact hx
  · rw [fs_set (M' := sR M q k (some r)) hk (by simp [fsV, gR_sR, va_rf]) (fun j t' h => fsV_sR j t' h), ws_set (M' := sR M q k (some r)) (by rw [ce_obj hqc f6]) sR_o] at hP
    exact kk H1 locs1 ls hP hS h3 h4
theorem g_aast {sh : Shp} (hX : OkX X cc own fr lc) (hn : Fit X sh n) {q qk t ci : Nat} {i : Int32} {r : vw_C} (hd : Dc cc pc .aastore 1 pc') (hb : aB sh q t i = true) (ht9 : t < 99) (hak : ak t = 2) (ht : tyl[t]? = some (.object r.1)) (hcl : cls[ci]? = some r) (hci : ci < 100) (hq : oB sh qk ci = true) (kk : GoN X sh n kc ks (sR M q i.toNatClampNeg (some qk)) pc' lo st) : GoN X sh n kc ks M pc lo (.ref (X.B + qk) :: .int i :: .ref (X.B + q) :: st) := by
  obtain ⟨hd, rfl⟩ := hd
  intro H locs ls h1 h2 h3 h4
  have ha := aget (M := M) hn ht9 hb
  rw [hak, ar2] at ha
  have hv : (wsOf X.cA X.B sh n M)[qk]? = some (X.B + qk, .inr (ci, fsOf X.B M qk (fk ci))) := by rw [ws_get (hn.ob hq hci), ce_obj (oB_s hq) hci]
  refine va_astq hX.1 hX.2.1 hX.2.2.2.2.1 h1 (ws_D hn.2) h2 q t qk ci ha (tys_get ht) hv hcl (aB_s hb).2 hd (fun H1 locs1 hP hD hS => ?_)
  rw [ws_set (M' := sR M q i.toNatClampNeg (some qk)) ?_ sR_o] at hP
  · exact kk H1 locs1 ls hP hS h3 h4
  · rw [ce_arr (aB_s hb).1, hak, ar2]
    have e : va_up (fun j => (gR M q j).map (X.B + ·)) i.toNatClampNeg (some (X.B + qk)) = fun j => (gR (sR M q i.toNatClampNeg (some qk)) q j).map (X.B + ·) := by
      funext j
      unfold va_up
      rw [gR_sR]
      by_cases hj : j = i.toNatClampNeg
      · rw [if_pos hj, if_pos ⟨rfl, hj⟩]
        rfl
      · rw [if_neg hj, if_neg (fun z => hj z.2)]
    rw [e]
theorem g_obj {sh : Shp} (hX : OkX X cc own fr lc) {idx q : Nat} (hd : Dc cc pc (.invokespecial idx) 3 pc') (hw : Cond.methodLink own idx Lib.objectInit ∈ WALL) (hf : 1 ≤ fr) (hl : 12 ≤ lc) (kk : GoN X sh n kc ks M pc' lo []) : GoN X sh n kc ks M pc lo [.ref (X.B + q)] := by
  obtain ⟨hd, rfl⟩ := hd
  intro H locs ls h1 h2 h3 h4
  refine W.objInit hX.1 hX.2.1 hX.2.2.1 (hX.2.2.2.1 _ hw) (hX.2.2.2.1 _ wk_27) (hX.2.2.2.1 _ wk_28) rfl (by rw [h4]; exact h3.1) rfl hd (by rw [hX.2.2.2.2.2.1]; exact hf) (by rw [hX.2.2.2.2.2.2.1]; exact hl) ?_
  exact kk H locs ls h1 h2 h3 h4
end GR
