/-! THE LAW: rows over any heap predicate; the two regions; calls over one of them -/
def GoP (X : Cx) (P : Heap → Prop) (kc ks : Nat) (pc : Nat) (lo : List (Option Value)) (st : List Value) : Prop :=
  ∀ (H : Heap) (locs : List Loc) (ls : Array Slot), P H → va_S X.A X.H0 H locs → lv_has ls lo.length (lpr 0 lo) → X.c.maxLocals = lo.length → W X.p X.l X.e X.R X.s X.m X.args X.below X.meth X.c H locs kc ks X.Q (F0 X.m pc ls st)
section PW
variable {X : Cx} {cc : ByteArray} {own : String} {fr lc : Nat} {P : Heap → Prop} {kc ks : Nat} {pc pc' tgt : Nat} {lo : List (Option Value)} {st : List Value}
theorem p_iconst (hX : OkX X cc own fr lc) {z : Int} {v : Int32} (hd : Dc cc pc (.iconst z) 1 pc') (hv : Int32.ofInt z = v) (k : GoP X P kc ks pc' lo (.int v :: st)) : GoP X P kc ks pc lo (st) := by
  obtain ⟨hd, rfl⟩ := hd
  exact fun H locs ls h1 h2 h3 h4 => lv_iconst hX.1 hX.2.1 hd hv (k H locs ls h1 h2 h3 h4)
theorem p_bipush (hX : OkX X cc own fr lc) {z : Int} {v : Int32} (hd : Dc cc pc (.bipush z) 2 pc') (hv : (Int8.ofInt z).toInt32 = v) (k : GoP X P kc ks pc' lo (.int v :: st)) : GoP X P kc ks pc lo (st) := by
  obtain ⟨hd, rfl⟩ := hd
  exact fun H locs ls h1 h2 h3 h4 => lv_bipush hX.1 hX.2.1 hd hv (k H locs ls h1 h2 h3 h4)
theorem p_sipush (hX : OkX X cc own fr lc) {z : Int} {v : Int32} (hd : Dc cc pc (.sipush z) 3 pc') (hv : (Int16.ofInt z).toInt32 = v) (k : GoP X P kc ks pc' lo (.int v :: st)) : GoP X P kc ks pc lo (st) := by
  obtain ⟨hd, rfl⟩ := hd
  exact fun H locs ls h1 h2 h3 h4 => lv_sipush hX.1 hX.2.1 hd hv (k H locs ls h1 h2 h3 h4)
theorem p_ldc2 (hX : OkX X cc own fr lc) {ix : Nat} {v : Int64} (hd : Dc cc pc (.ldc2_w ix) 3 pc') (hw : Cond.constantLong own ix v ∈ WALL) (k : GoP X P kc ks pc' lo (.long v :: st)) : GoP X P kc ks pc lo (st) := by
  obtain ⟨hd, rfl⟩ := hd
  exact fun H locs ls h1 h2 h3 h4 => lv_ldc2 hX.1 hX.2.1 hX.2.2.1 (hX.2.2.2.1 _ hw) hd (k H locs ls h1 h2 h3 h4)
theorem p_iload_n (hX : OkX X cc own fr lc) {j : Fin 4} {i : Nat} {x : Int32} (hd : Dc cc pc (.iload_n j) 1 pc') (hi : (j : Nat) = i) (hl : lo[i]? = some (some (.int x))) (k : GoP X P kc ks pc' lo (.int x :: st)) : GoP X P kc ks pc lo (st) := by
  obtain ⟨hd, rfl⟩ := hd
  exact fun H locs ls h1 h2 h3 h4 => lv_iload_n hX.1 hX.2.1 hd hi (lpr_at h3 hl) (k H locs ls h1 h2 h3 h4)
theorem p_aload_n (hX : OkX X cc own fr lc) {j : Fin 4} {i : Nat} {x : Nat} (hd : Dc cc pc (.aload_n j) 1 pc') (hi : (j : Nat) = i) (hl : lo[i]? = some (some (.ref x))) (k : GoP X P kc ks pc' lo (.ref x :: st)) : GoP X P kc ks pc lo (st) := by
  obtain ⟨hd, rfl⟩ := hd
  exact fun H locs ls h1 h2 h3 h4 => lv_aload_n hX.1 hX.2.1 hd hi (lpr_at h3 hl) (k H locs ls h1 h2 h3 h4)
theorem p_istore_n (hX : OkX X cc own fr lc) {j : Fin 4} {i : Nat} {x : Int32} (hd : Dc cc pc (.istore_n j) 1 pc') (hi : (j : Nat) = i) (hn : i < lo.length) (hp : pvOk lo i = true) (k : GoP X P kc ks pc' (lo.set i (some (.int x))) st) : GoP X P kc ks pc lo (.int x :: st) := by
  obtain ⟨hd, rfl⟩ := hd
  exact fun H locs ls h1 h2 h3 h4 => lv_istore_n hX.1 hX.2.1 hd hi h3 hn rfl (fun ls' h => k H locs ls' h1 h2 (st1 h3 hn hp h) (h4.trans (by simp)))
theorem p_astore_n (hX : OkX X cc own fr lc) {j : Fin 4} {i : Nat} {x : Nat} (hd : Dc cc pc (.astore_n j) 1 pc') (hi : (j : Nat) = i) (hn : i < lo.length) (hp : pvOk lo i = true) (k : GoP X P kc ks pc' (lo.set i (some (.ref x))) st) : GoP X P kc ks pc lo (.ref x :: st) := by
  obtain ⟨hd, rfl⟩ := hd
  exact fun H locs ls h1 h2 h3 h4 => lv_astore_n hX.1 hX.2.1 hd hi h3 hn rfl (fun ls' h => k H locs ls' h1 h2 (st1 h3 hn hp h) (h4.trans (by simp)))
theorem p_iinc (hX : OkX X cc own fr lc) {i : Nat} {z : Int} {x v : Int32} (hd : Dc cc pc (.iinc i z) 3 pc') (hl : lo[i]? = some (some (.int x))) (hv : x + Int32.ofInt z = v) (hn : i < lo.length) (hp : pvOk lo i = true) (k : GoP X P kc ks pc' (lo.set i (some (.int v))) st) : GoP X P kc ks pc lo st := by
  obtain ⟨hd, rfl⟩ := hd
  intro H locs ls h1 h2 h3 h4
  obtain ⟨kk, hkk⟩ := List.getElem?_of_mem ((lpr_mem lo 0 i (.int x)).mpr ⟨i, (Nat.zero_add i).symm, hl⟩)
  exact lv_iinc hX.1 hX.2.1 hd h3 hkk hv hn rfl (fun ls' h => k H locs ls' h1 h2 (st1 h3 hn hp h) (h4.trans (by simp)))
theorem p_iadd (hX : OkX X cc own fr lc) {x y : Int32} (hd : Dc cc pc (.iadd) 1 pc') (k : GoP X P kc ks pc' lo (.int (x + y) :: st)) : GoP X P kc ks pc lo (.int y :: .int x :: st) := by
  obtain ⟨hd, rfl⟩ := hd
  exact fun H locs ls h1 h2 h3 h4 => lv_iadd hX.1 hX.2.1 hd (k H locs ls h1 h2 h3 h4)
theorem p_isub (hX : OkX X cc own fr lc) {x y : Int32} (hd : Dc cc pc (.isub) 1 pc') (k : GoP X P kc ks pc' lo (.int (x - y) :: st)) : GoP X P kc ks pc lo (.int y :: .int x :: st) := by
  obtain ⟨hd, rfl⟩ := hd
  exact fun H locs ls h1 h2 h3 h4 => lv_isub hX.1 hX.2.1 hd (k H locs ls h1 h2 h3 h4)
theorem p_iand (hX : OkX X cc own fr lc) {x y : Int32} (hd : Dc cc pc (.iand) 1 pc') (k : GoP X P kc ks pc' lo (.int (x &&& y) :: st)) : GoP X P kc ks pc lo (.int y :: .int x :: st) := by
  obtain ⟨hd, rfl⟩ := hd
  exact fun H locs ls h1 h2 h3 h4 => lv_iand hX.1 hX.2.1 hd (k H locs ls h1 h2 h3 h4)
theorem p_i2l (hX : OkX X cc own fr lc) {x : Int32} (hd : Dc cc pc (.i2l) 1 pc') (k : GoP X P kc ks pc' lo (.long x.toInt64 :: st)) : GoP X P kc ks pc lo (.int x :: st) := by
  obtain ⟨hd, rfl⟩ := hd
  exact fun H locs ls h1 h2 h3 h4 => lv_i2l hX.1 hX.2.1 hd rfl (k H locs ls h1 h2 h3 h4)
theorem p_lshl (hX : OkX X cc own fr lc) {x : Int64} {y : Int32} (hd : Dc cc pc (.lshl) 1 pc') (k : GoP X P kc ks pc' lo (.long (x <<< (y.toInt64 &&& 63)) :: st)) : GoP X P kc ks pc lo (.int y :: .long x :: st) := by
  obtain ⟨hd, rfl⟩ := hd
  exact fun H locs ls h1 h2 h3 h4 => lv_lshl hX.1 hX.2.1 hd rfl (k H locs ls h1 h2 h3 h4)
theorem p_lor (hX : OkX X cc own fr lc) {x y : Int64} (hd : Dc cc pc (.lor) 1 pc') (k : GoP X P kc ks pc' lo (.long (x ||| y) :: st)) : GoP X P kc ks pc lo (.long y :: .long x :: st) := by
  obtain ⟨hd, rfl⟩ := hd
  exact fun H locs ls h1 h2 h3 h4 => lv_lor hX.1 hX.2.1 hd (k H locs ls h1 h2 h3 h4)
theorem p_land (hX : OkX X cc own fr lc) {x y : Int64} (hd : Dc cc pc (.land) 1 pc') (k : GoP X P kc ks pc' lo (.long (x &&& y) :: st)) : GoP X P kc ks pc lo (.long y :: .long x :: st) := by
  obtain ⟨hd, rfl⟩ := hd
  exact fun H locs ls h1 h2 h3 h4 => lv_land hX.1 hX.2.1 hd (k H locs ls h1 h2 h3 h4)
theorem p_goto (hX : OkX X cc own fr lc) {off : Int} (hd : Dj cc pc (.goto off) off tgt pc') (k : GoP X P kc ks tgt lo st) : GoP X P kc ks pc lo st := by
  obtain ⟨hd, ht, rfl⟩ := hd
  exact fun H locs ls h1 h2 h3 h4 => lv_goto hX.1 hX.2.1 hd ht (k H locs ls h1 h2 h3 h4)
theorem p_tabOut (hX : OkX X cc own fr lc) {dflt l h : Int} {offs : Array Int} {len : Nat} {x : Int32} (hd : decode cc pc = .ok (.tableswitch dflt l h offs, len)) (ho : x.toInt < l ∨ h < x.toInt) (ht : (pc : Int) + dflt = (tgt : Int)) (k : GoP X P kc ks tgt lo st) : GoP X P kc ks pc lo (.int x :: st) :=
  fun H locs ls h1 h2 h3 h4 => lv_tableOut hX.1 hX.2.1 hd ho ht (k H locs ls h1 h2 h3 h4)
theorem p_tabIn (hX : OkX X cc own fr lc) {dflt l h : Int} {offs : Array Int} {len : Nat} {x : Int32} {off : Int} (hd : decode cc pc = .ok (.tableswitch dflt l h offs, len)) (hl : ¬ x.toInt < l) (hh : ¬ h < x.toInt) (ho : offs[(x.toInt - l).toNat]? = some off) (ht : (pc : Int) + off = (tgt : Int)) (k : GoP X P kc ks tgt lo st) : GoP X P kc ks pc lo (.int x :: st) :=
  fun H locs ls h1 h2 h3 h4 => lv_tableIn hX.1 hX.2.1 hd hl hh ho ht (k H locs ls h1 h2 h3 h4)
theorem p_icmp_eq (hX : OkX X cc own fr lc) {x y : Int32} {off : Int} (hd : Dj cc pc (.if_icmp .eq off) off tgt pc') (kt : x = y → GoP X P kc ks tgt lo st) (kf : ¬ x = y → GoP X P kc ks pc' lo st) : GoP X P kc ks pc lo (.int y :: .int x :: st) := by
  obtain ⟨hd, ht, rfl⟩ := hd
  exact fun H locs ls h1 h2 h3 h4 => lv_icmp_eq hX.1 hX.2.1 hd ht (fun h => kt h H locs ls h1 h2 h3 h4) (fun h => kf h H locs ls h1 h2 h3 h4)
theorem p_icmp_gt (hX : OkX X cc own fr lc) {x y : Int32} {off : Int} (hd : Dj cc pc (.if_icmp .gt off) off tgt pc') (kt : y < x → GoP X P kc ks tgt lo st) (kf : ¬ y < x → GoP X P kc ks pc' lo st) : GoP X P kc ks pc lo (.int y :: .int x :: st) := by
  obtain ⟨hd, ht, rfl⟩ := hd
  exact fun H locs ls h1 h2 h3 h4 => lv_icmp_gt hX.1 hX.2.1 hd ht (fun h => kt h H locs ls h1 h2 h3 h4) (fun h => kf h H locs ls h1 h2 h3 h4)
theorem p_dup (hX : OkX X cc own fr lc) {v : Value} (hd : Dc cc pc (.dup) 1 pc') (hv : v.category = 1) (k : GoP X P kc ks pc' lo (v :: v :: st)) : GoP X P kc ks pc lo (v :: st) := by
  obtain ⟨hd, rfl⟩ := hd
  exact fun H locs ls h1 h2 h3 h4 => lv_dup hX.1 hX.2.1 hd hv (k H locs ls h1 h2 h3 h4)
end PW
def Cx.at (X : Cx) (B' : Nat) : Cx := (X.p, X.l, X.e, X.R, X.s, X.m, X.args, X.below, X.meth, X.c, X.Q, X.D, X.cA, B', X.H0, X.A)
/-- both regions: the class's from B on, the reference's behind it -/
def PL (X : Cx) (M1 M2 : Mem) : Heap → Prop := fun H => va_P X.D cls (wsOf X.cA X.B shC nC M1) H ∧ va_P X.D cls (wsOf X.cA (X.B + nC) shR nR M2) H
theorem ws_kept {D : va_G} {cA : Nat → ClassId} {B : Nat} {sh : Shp} {n : Nat} {M : Mem} {H H1 : Heap} (h : va_P D cls (wsOf cA B sh n M) H) (hq : ∀ q : Nat, q < H.size → B ≤ q → q < B + n → H1[q]? = H[q]?) : va_P D cls (wsOf cA B sh n M) H1 := h.kept (fun k q hk => by
  have e := ws_inv hk
  have hl := (h k q hk).lt
  obtain ⟨h1, rfl⟩ := e
  exact hq _ hl (Nat.le_add_right _ _) (Nat.add_lt_add_left h1 _))
section PC
variable {X : Cx} {cc : ByteArray} {own : String} {fr lc : Nat} {M1 M2 : Mem} {kc ks : Nat} {pc pc' : Nat} {lo : List (Option Value)} {st stk : List Value}
variable {y : MethodName} {bytes : ByteArray} {maxL fr' lc' na idx q : Nat} {ret : Option FieldType} {As : (Nat → Nat) → Nat → List Value}
theorem p_c1 (hX : OkX X cc own fr lc) (hA : ∀ a, X.B ≤ a → X.A a) {res : Mem × Int32} (hM : Ci X.l y bytes maxL ret fr' lc' shC nC (fun K B => .ref (B + 0) :: As K B) M1 res) (hd : Dc cc pc (.invokevirtual idx) 3 pc') (hc : CW y bytes maxL ret na) (hv : CWv y) (hlk : Cond.methodLink own idx y ∈ WALL) (hr : fr' + 1 ≤ fr ∧ 8 + (maxL + 11) + lc' ≤ lc)
    {ci : Nat} {r : vw_C} (hcl : cls[ci]? = some r) (hrc : r.1 = y.cls) (hci : ci < 100) (hq : oB shC 0 ci = true) (hst : stk = (As X.cA X.B).reverse ++ .ref (X.B + 0) :: st) (hna : (As X.cA X.B).length = na) (hcat : (st.map fun v => v.category).sum ≤ 8) (hk : kc ≤ X.R.cells ∧ ks ≤ X.R.slots) (k : GoP X (PL X res.1 M2) kc ks pc' lo (.int res.2 :: st)) : GoP X (PL X M1 M2) kc ks pc lo stk := by
  intro H locs ls h1 h2 h3 h4
  have hpc := hd.2
  have hR : ∀ q, reg X.B nC q → X.A q := fun q h => hA q h.1
  refine va_calli (run_v (q := 0) hX hd (hM X.D X.cA X.B) hc hv hlk hr hcl hrc hci hq (show 0 < nC by decide) hst hna hcat hR h1.1 h2 (lo := lo) h3.1 h4 hk.1 hk.2) h2 (fun q _ h => hR q h) hR ?_
  intro r0 u t H1 locs1 ht hal hp hb hz hkp hS
  rw [hpc]
  subst hp
  subst ht
  exact k t.heap locs1 ls ⟨hb, ws_kept h1.2 (fun q g1 g2 g3 => hkp q g1 (fun z => by have := z.2; omega))⟩ hS h3 h4
theorem p_c2 (hX : OkX X cc own fr lc) (hA : ∀ a, X.B ≤ a → X.A a) {res : Mem × Int32} (hM : Ci X.l y bytes maxL ret fr' lc' shR nR (fun K B => .ref (B + 0) :: As K B) M2 res) (hd : Dc cc pc (.invokevirtual idx) 3 pc') (hc : CW y bytes maxL ret na) (hv : CWv y) (hlk : Cond.methodLink own idx y ∈ WALL) (hr : fr' + 1 ≤ fr ∧ 8 + (maxL + 11) + lc' ≤ lc)
    {ci : Nat} {r : vw_C} (hcl : cls[ci]? = some r) (hrc : r.1 = y.cls) (hci : ci < 100) (hq : oB shR 0 ci = true) (hst : stk = (As X.cA (X.B + nC)).reverse ++ .ref (X.B + nC + 0) :: st) (hna : (As X.cA (X.B + nC)).length = na) (hcat : (st.map fun v => v.category).sum ≤ 8) (hk : kc ≤ X.R.cells ∧ ks ≤ X.R.slots) (k : GoP X (PL X M1 res.1) kc ks pc' lo (.int res.2 :: st)) : GoP X (PL X M1 M2) kc ks pc lo stk := by
  intro H locs ls h1 h2 h3 h4
  have hpc := hd.2
  have hR : ∀ q, reg (X.B + nC) nR q → X.A q := fun q h => hA q (by have := h.1; omega)
  refine va_calli (run_v (X := X.at (X.B + nC)) (q := 0) (n := nR) (sh := shR) hX hd (hM X.D X.cA (X.B + nC)) hc hv hlk hr hcl hrc hci hq (show 0 < nR by decide) hst hna hcat hR h1.2 h2 (lo := lo) h3.1 h4 hk.1 hk.2) h2 (fun q _ h => hR q h) hR ?_
  intro r0 u t H1 locs1 ht hal hp hb hz hkp hS
  rw [hpc]
  subst hp
  subst ht
  exact k t.heap locs1 ls ⟨ws_kept h1.1 (fun q g1 g2 g3 => hkp q g1 (fun z => by have := z.1; show False; have h9 : X.B + nC ≤ q := z.1; omega)), hb⟩ hS h3 h4
/-- the script -/
theorem p_slen (hX : OkX X cc own fr lc) {P : Heap → Prop} {b L : Nat} {xs : Nat → Int32} (hs : va_X b L xs X.s X.H0) (hb : b < X.H0.size) (hn : ¬ X.A b) (hd : Dc cc pc .arraylength 1 pc') (k : GoP X P kc ks pc' lo (.int (Int32.ofNat L) :: st)) : GoP X P kc ks pc lo (.ref b :: st) := by
  obtain ⟨hd, rfl⟩ := hd
  intro H locs ls h1 h2 h3 h4
  exact va_slen hX.1 hX.2.1 hs hb hn h2 hd (k H locs ls h1 h2 h3 h4)
theorem p_sld (hX : OkX X cc own fr lc) {P : Heap → Prop} {b L : Nat} {xs : Nat → Int32} {i : Int32} (hs : va_X b L xs X.s X.H0) (hb : b < X.H0.size) (hn : ¬ X.A b) (hi : vp_in i L) (hd : Dc cc pc .iaload 1 pc') (k : GoP X P kc ks pc' lo (.int (xs i.toNatClampNeg) :: st)) : GoP X P kc ks pc lo (.int i :: .ref b :: st) := by
  obtain ⟨hd, rfl⟩ := hd
  intro H locs ls h1 h2 h3 h4
  exact va_sld hX.1 hX.2.1 hs hb hn h2 hi hd (k H locs ls h1 h2 h3 h4)
end PC
