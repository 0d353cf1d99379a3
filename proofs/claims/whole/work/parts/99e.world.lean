/-! THE WORLD out of the premises -/
theorem strs_ex {b : Nat} {s : State} {A : Nat → Prop} (hgv : (Cond.and given_1 narrow_1).before #[Value.ref b] s = true) (hA : ∀ a : Nat, a < s.heap.size → ¬ A a) : ∃ ad : Nat → Nat × Nat, ∀ i, i < SBYT.length → (tmS i).eval #[Value.ref b] s none [] s = some (.ref (ad i).1) ∧ va_O "java/lang/String" (ad i).1 A s s.heap ∧ va_OF "java/lang/String" "coder" "B" (.int 0) (ad i).1 A s s.heap ∧ va_OF "java/lang/String" "value" "[B" (.ref (ad i).2) (ad i).1 A s s.heap ∧ va_T .byte (ad i).2 (SBYT.getD i []).length (fun j => .int ((SBYT.getD i []).getD j 0)) A s s.heap := by
  have hs := flat_of_before _ hgv
  refine Classical.axiomOfChoice (r := fun i q => i < SBYT.length → (tmS i).eval #[Value.ref b] s none [] s = some (.ref (q : Nat × Nat).1) ∧ va_O "java/lang/String" q.1 A s s.heap ∧ va_OF "java/lang/String" "coder" "B" (.int 0) q.1 A s s.heap ∧ va_OF "java/lang/String" "value" "[B" (.ref q.2) q.1 A s s.heap ∧ va_T .byte q.2 (SBYT.getD i []).length (fun j => .int ((SBYT.getD i []).getD j 0)) A s s.heap) (fun i => ?_)
  by_cases hi : i < SBYT.length
  · obtain ⟨a, c, cA, kA, q1, q2, q3, q4, q5, q6, -⟩ := Cond.exactly_spec (args := #[Value.ref b]) (first := s) (o := none) (s := s) (idx := []) (t := tmS i) (cls := "java/lang/String") (hs _ (gv_ex i hi))
    obtain ⟨t, ht, hT⟩ := va_Tof (f := fun j => .int ((SBYT.getD i []).getD j 0)) (A := A) (sb_len i hi) (hs _ (gv_ar i hi)) (va_eqt (hs _ (gv_le i hi))) (fun j hj => va_eqt (hs _ (gv_el i hi j hj))) hA
    exact ⟨(a, t), fun _ => ⟨q1, ⟨cA, q3, q5, by rw [q6]; exact q2, hA a (Array.getElem?_eq_some_iff.mp q3).1⟩, vk_OFof q1 (va_eqt (hs _ (gv_co i hi))) hA, vk_OFof q1 ht hA, hT⟩⟩
  · exact ⟨(0, 0), fun h => absurd h hi⟩
theorem ty_prim {s : State} {args : Array Value} {ty : FieldType} (h : (Cond.arrayClass ty).before args s = true) (hr : ∀ c, s.vm.findClass ("[" ++ ty.toString) = some c → va_RA s c ty) : ∃ c, ArrOfT s c ty ∧ va_RA s c ty := by
  obtain ⟨c, k, comp, h1, h2, h3⟩ := Cond.arrayClass_spec (args := args) (first := s) (o := none) (idx := []) h
  exact ⟨c, fun n z => ⟨fun k h => (by cases h), k, h2, comp, h3⟩, hr c h1⟩
theorem ty_obj {s : State} {args : Array Value} {C : String} (h : (Cond.arrayOver (.object C)).before args s = true) : ∃ c, ArrOfT s c (.object C) ∧ va_RA s c (.object C) := by
  obtain ⟨comp, c, k, h1, h2, h3, h4, h5⟩ := Cond.arrayOver_spec (args := args) (first := s) (o := none) (idx := []) h
  exact ⟨c, fun n z => ⟨fun k h => (by cases h), k, h3, comp, h4⟩, k, comp, h3, h4, h1, h5⟩
theorem ty_arr {s : State} {args : Array Value} (h : (Cond.arrayOver (.array .int)).before args s = true) : ∃ c, ArrOfT s c (.array .int) ∧ va_RA s c (.array .int) := by
  obtain ⟨comp, c, k, h1, h2, h3, h4, h5⟩ := arrayOverA_spec (args := args) (first := s) (o := none) (idx := []) h
  exact ⟨c, fun n z => ⟨fun k h => (by cases h), k, h3, comp, h4⟩, h5⟩
theorem tys_ex {b : Nat} {s : State} (hts : ∀ w ∈ lw_tbl, w.before #[Value.ref b] s = true) : ∃ ca : Nat → ClassId, ∀ (k : Nat) (q : FieldType), tyl[k]? = some q → ArrOfT s (ca k) q ∧ va_RA s (ca k) q := by
  refine Classical.axiomOfChoice (r := fun k c => ∀ q, tyl[k]? = some q → ArrOfT s c q ∧ va_RA s c q) (fun k => ?_)
  have use : ∀ q, tyl[k]? = some q → (∃ c, ArrOfT s c q ∧ va_RA s c q) → ∃ c, ∀ q, tyl[k]? = some q → ArrOfT s c q ∧ va_RA s c q := fun q h ⟨c, hc⟩ => ⟨c, fun q' h' => by cases h.symm.trans h'; exact hc⟩
  match k with
  | 0 => exact use _ rfl (ty_prim (hts _ tw_a0) (fun _ h => h))
  | 1 => exact use _ rfl (ty_prim (hts _ tw_a1) (fun _ h => h))
  | 2 => exact use _ rfl (ty_prim (hts _ tw_a2) (fun _ h => h))
  | 3 => exact use _ rfl (ty_prim (hts _ tw_a3) (fun _ h => h))
  | 4 => exact use _ rfl (ty_obj (hts _ ov_Ring))
  | 5 => exact use _ rfl (ty_obj (hts _ ov_Stall))
  | 6 => exact use _ rfl (ty_obj (hts _ ov_Buyer))
  | 7 => exact use _ rfl (ty_obj (hts _ ov_Market))
  | 8 => exact use _ rfl (ty_obj (hts _ ov_Row))
  | 9 => exact use _ rfl (ty_arr (hts _ tw_aa))
  | k + 10 =>
    refine ⟨0, fun q h => ?_⟩
    exfalso
    have := (List.getElem?_eq_some_iff.mp h).1
    have e : tyl.length = 10 := rfl
    omega
theorem tw_i0 : Cond.instantiable RX0 11 ∈ lw_tbl := List.mem_of_getElem? (i := 465) (by decide +kernel)
theorem tw_i1 : Cond.instantiable RX1 7 ∈ lw_tbl := List.mem_of_getElem? (i := 254) (by decide +kernel)
theorem tw_i2 : Cond.instantiable RX2 2 ∈ lw_tbl := List.mem_of_getElem? (i := 379) (by decide +kernel)
theorem tw_i3 : Cond.instantiable RX3 18 ∈ lw_tbl := List.mem_of_getElem? (i := 373) (by decide +kernel)
theorem tw_i4 : Cond.instantiable RX4 9 ∈ lw_tbl := List.mem_of_getElem? (i := 166) (by decide +kernel)
theorem tw_i5 : Cond.instantiable RX5 4 ∈ lw_tbl := List.mem_of_getElem? (i := 509) (by decide +kernel)
theorem tw_i6 : Cond.instantiable RX6 9 ∈ lw_tbl := List.mem_of_getElem? (i := 128) (by decide +kernel)
theorem tw_i7 : Cond.instantiable RX7 3 ∈ lw_tbl := List.mem_of_getElem? (i := 177) (by decide +kernel)
theorem tw_i8 : Cond.instantiable RX8 4 ∈ lw_tbl := List.mem_of_getElem? (i := 529) (by decide +kernel)
theorem tw_i9 : Cond.instantiable RX9 7 ∈ lw_tbl := List.mem_of_getElem? (i := 201) (by decide +kernel)
theorem tw_i10 : Cond.instantiable RX10 10 ∈ lw_tbl := List.mem_of_getElem? (i := 120) (by decide +kernel)
theorem tw_i11 : Cond.instantiable RX11 54 ∈ lw_tbl := List.mem_of_getElem? (i := 1216) (by decide +kernel)
theorem cls_ex {b : Nat} {s : State} (hts : ∀ w ∈ lw_tbl, w.before #[Value.ref b] s = true) : ∃ f : Nat → ClassId × (Nat → Nat), ∀ (k : Nat) (r : vw_C), cls[k]? = some r → u_Kn s r.1 r.2.1 r.2.2 (f k).1 (f k).2 := by
  refine Classical.axiomOfChoice (r := fun k q => ∀ r : vw_C, cls[k]? = some r → u_Kn s r.1 r.2.1 r.2.2 (q : ClassId × (Nat → Nat)).1 q.2) (fun k => ?_)
  match k with
  | 0 =>
    obtain ⟨c0, iS, hk⟩ := u_known (C := RX0) (T := TX0) (N := 11) (n := 11) hts (fun w h => WALL_in _ (ly0 w h)) (hts _ tw_i0)
    exact ⟨(c0, iS), fun r hr => by cases hr; exact hk⟩
  | 1 =>
    obtain ⟨c0, iS, hk⟩ := u_known (C := RX1) (T := TX1) (N := 7) (n := 7) hts (fun w h => WALL_in _ (ly1 w h)) (hts _ tw_i1)
    exact ⟨(c0, iS), fun r hr => by cases hr; exact hk⟩
  | 2 =>
    obtain ⟨c0, iS, hk⟩ := u_known (C := RX2) (T := TX2) (N := 2) (n := 2) hts (fun w h => WALL_in _ (ly2 w h)) (hts _ tw_i2)
    exact ⟨(c0, iS), fun r hr => by cases hr; exact hk⟩
  | 3 =>
    obtain ⟨c0, iS, hk⟩ := u_known (C := RX3) (T := TX3) (N := 18) (n := 18) hts (fun w h => WALL_in _ (ly3 w h)) (hts _ tw_i3)
    exact ⟨(c0, iS), fun r hr => by cases hr; exact hk⟩
  | 4 =>
    obtain ⟨c0, iS, hk⟩ := u_known (C := RX4) (T := TX4) (N := 9) (n := 9) hts (fun w h => WALL_in _ (ly4 w h)) (hts _ tw_i4)
    exact ⟨(c0, iS), fun r hr => by cases hr; exact hk⟩
  | 5 =>
    obtain ⟨c0, iS, hk⟩ := u_known (C := RX5) (T := TX5) (N := 4) (n := 4) hts (fun w h => WALL_in _ (ly5 w h)) (hts _ tw_i5)
    exact ⟨(c0, iS), fun r hr => by cases hr; exact hk⟩
  | 6 =>
    obtain ⟨c0, iS, hk⟩ := u_known (C := RX6) (T := TX6) (N := 9) (n := 9) hts (fun w h => WALL_in _ (ly6 w h)) (hts _ tw_i6)
    exact ⟨(c0, iS), fun r hr => by cases hr; exact hk⟩
  | 7 =>
    obtain ⟨c0, iS, hk⟩ := u_known (C := RX7) (T := TX7) (N := 3) (n := 3) hts (fun w h => WALL_in _ (ly7 w h)) (hts _ tw_i7)
    exact ⟨(c0, iS), fun r hr => by cases hr; exact hk⟩
  | 8 =>
    obtain ⟨c0, iS, hk⟩ := u_known (C := RX8) (T := TX8) (N := 4) (n := 4) hts (fun w h => WALL_in _ (ly8 w h)) (hts _ tw_i8)
    exact ⟨(c0, iS), fun r hr => by cases hr; exact hk⟩
  | 9 =>
    obtain ⟨c0, iS, hk⟩ := u_known (C := RX9) (T := TX9) (N := 7) (n := 7) hts (fun w h => WALL_in _ (ly9 w h)) (hts _ tw_i9)
    exact ⟨(c0, iS), fun r hr => by cases hr; exact hk⟩
  | 10 =>
    obtain ⟨c0, iS, hk⟩ := u_known (C := RX10) (T := TX10) (N := 10) (n := 10) hts (fun w h => WALL_in _ (ly10 w h)) (hts _ tw_i10)
    exact ⟨(c0, iS), fun r hr => by cases hr; exact hk⟩
  | 11 =>
    obtain ⟨c0, iS, hk⟩ := u_known (C := RX11) (T := TX11) (N := 54) (n := 54) hts (fun w h => WALL_in _ (ly11 w h)) (hts _ tw_i11)
    exact ⟨(c0, iS), fun r hr => by cases hr; exact hk⟩
  | k + 12 =>
    refine ⟨(0, fun _ => 0), fun r h => ?_⟩
    exfalso
    have := (List.getElem?_eq_some_iff.mp h).1
    have e : cls.length = 12 := rfl
    omega
theorem world_ex {b : Nat} {s : State} {A : Nat → Prop} (hts : ∀ w ∈ lw_tbl, w.before #[Value.ref b] s = true) (hgv : (Cond.and given_1 narrow_1).before #[Value.ref b] s = true) (hA : ∀ a : Nat, a < s.heap.size → ¬ A a) : ∃ (D : va_G) (K : Nat → ClassId), va_K D cls (tysOf K) s ∧ Strs K A s s.heap ∧ Nst s := by
  obtain ⟨ad, had⟩ := strs_ex hgv hA
  obtain ⟨ca, hca⟩ := tys_ex hts
  obtain ⟨f, hf⟩ := cls_ex hts
  have hs := flat_of_before _ hgv
  have e1 : ∀ i, i < SBYT.length → (fun k => if k < 1000 then ca k else if k < 2000 then (ad (k - 1000)).1 else (ad (k - 2000)).2 : Nat → Nat) (1000 + i) = (ad i).1 := by
    intro i hi
    have hl : SBYT.length = 26 := rfl
    show (if 1000 + i < 1000 then _ else if 1000 + i < 2000 then (ad (1000 + i - 1000)).1 else _) = _
    rw [if_neg (by omega), if_pos (by omega), Nat.add_sub_cancel_left]
  have e2 : ∀ i, i < SBYT.length → (fun k => if k < 1000 then ca k else if k < 2000 then (ad (k - 1000)).1 else (ad (k - 2000)).2 : Nat → Nat) (2000 + i) = (ad i).2 := by
    intro i hi
    show (if 2000 + i < 1000 then _ else if 2000 + i < 2000 then _ else (ad (2000 + i - 2000)).2) = _
    rw [if_neg (by omega), if_neg (by omega), Nat.add_sub_cancel_left]
  refine ⟨(fun k => (f k).1, fun k => (f k).2), fun k => if k < 1000 then ca k else if k < 2000 then (ad (k - 1000)).1 else (ad (k - 2000)).2, ⟨fun k q h => hf k q h, fun k q h => ?_⟩, ⟨fun i hi => ?_, fun i q h => ?_, ?_, ?_⟩, ?_⟩
  · unfold tysOf at h
    rw [List.getElem?_mapIdx] at h
    cases ht : tyl[k]? with
    | none => rw [ht] at h; cases h
    | some ty =>
      rw [ht] at h
      have hk := (List.getElem?_eq_some_iff.mp ht).1
      have hl : tyl.length = 10 := rfl
      cases h
      show ArrOfT s (if k < 1000 then ca k else _) ty ∧ va_RA s (if k < 1000 then ca k else _) ty
      rw [if_pos (by omega)]
      exact hca k ty ht
  · obtain ⟨-, g1, g2, g3, g4⟩ := had i hi
    unfold Str1
    rw [e1 i hi, e2 i hi]
    exact ⟨g1, g2, g3, g4⟩
  · have hi : i < SBYT.length := (List.getElem?_eq_some_iff.mp h).1
    have g := (had i hi).1
    have et : tmS i = Term.string RX6 q.1 := by
      unfold tmS
      rw [List.getD_eq_getElem?_getD, h]
      rfl
    rw [et] at g
    rw [e1 i hi]
    exact vk_R.of (A := #[Value.ref b]) (hts _ (tw_str i q h)) g
  · exact va_Zof (hts _ tw_ls1) (hts _ tw_in1) (va_eqi (hs _ gv_cs)) hA
  · exact va_Zqof (hts _ tw_ls2) (hts _ tw_in2) (hs _ gv_si) hA
  · exact ⟨fun a i x h hw => va_Nw.of rfl (hts _ (List.mem_filter.mp hw).1), fun C hC => va_AO.of (hts _ hC), hts _ tw_aa⟩
theorem nc_L_7 : NC R_law 7 10 10 := ⟨_, tyX10, rfl, ly10, tyX10_ok, wk_21, wk_22, wk_1, by decide, rfl, fun j hj => match j, hj with | 0, _ => ⟨_, rfl, rfl⟩ | 1, _ => ⟨_, rfl, rfl⟩ | 2, _ => ⟨_, rfl, rfl⟩ | 3, _ => ⟨_, rfl, rfl⟩ | 4, _ => ⟨_, rfl, rfl⟩ | 5, _ => ⟨_, rfl, rfl⟩ | 6, _ => ⟨_, rfl, rfl⟩ | 7, _ => ⟨_, rfl, rfl⟩ | 8, _ => ⟨_, rfl, rfl⟩ | 9, _ => ⟨_, rfl, rfl⟩ | j + 10, h => absurd h (by omega)⟩
theorem nc_L_10 : NC R_law 10 11 54 := ⟨_, tyX11, rfl, ly11, tyX11_ok, wk_1117, wk_1118, wk_12, by decide, rfl, fun j hj => match j, hj with | 0, _ => ⟨_, rfl, rfl⟩ | 1, _ => ⟨_, rfl, rfl⟩ | 2, _ => ⟨_, rfl, rfl⟩ | 3, _ => ⟨_, rfl, rfl⟩ | 4, _ => ⟨_, rfl, rfl⟩ | 5, _ => ⟨_, rfl, rfl⟩ | 6, _ => ⟨_, rfl, rfl⟩ | 7, _ => ⟨_, rfl, rfl⟩ | 8, _ => ⟨_, rfl, rfl⟩ | 9, _ => ⟨_, rfl, rfl⟩ | 10, _ => ⟨_, rfl, rfl⟩ | 11, _ => ⟨_, rfl, rfl⟩ | 12, _ => ⟨_, rfl, rfl⟩ | 13, _ => ⟨_, rfl, rfl⟩ | 14, _ => ⟨_, rfl, rfl⟩ | 15, _ => ⟨_, rfl, rfl⟩ | 16, _ => ⟨_, rfl, rfl⟩ | 17, _ => ⟨_, rfl, rfl⟩ | 18, _ => ⟨_, rfl, rfl⟩ | 19, _ => ⟨_, rfl, rfl⟩ | 20, _ => ⟨_, rfl, rfl⟩ | 21, _ => ⟨_, rfl, rfl⟩ | 22, _ => ⟨_, rfl, rfl⟩ | 23, _ => ⟨_, rfl, rfl⟩ | 24, _ => ⟨_, rfl, rfl⟩ | 25, _ => ⟨_, rfl, rfl⟩ | 26, _ => ⟨_, rfl, rfl⟩ | 27, _ => ⟨_, rfl, rfl⟩ | 28, _ => ⟨_, rfl, rfl⟩ | 29, _ => ⟨_, rfl, rfl⟩ | 30, _ => ⟨_, rfl, rfl⟩ | 31, _ => ⟨_, rfl, rfl⟩ | 32, _ => ⟨_, rfl, rfl⟩ | 33, _ => ⟨_, rfl, rfl⟩ | 34, _ => ⟨_, rfl, rfl⟩ | 35, _ => ⟨_, rfl, rfl⟩ | 36, _ => ⟨_, rfl, rfl⟩ | 37, _ => ⟨_, rfl, rfl⟩ | 38, _ => ⟨_, rfl, rfl⟩ | 39, _ => ⟨_, rfl, rfl⟩ | 40, _ => ⟨_, rfl, rfl⟩ | 41, _ => ⟨_, rfl, rfl⟩ | 42, _ => ⟨_, rfl, rfl⟩ | 43, _ => ⟨_, rfl, rfl⟩ | 44, _ => ⟨_, rfl, rfl⟩ | 45, _ => ⟨_, rfl, rfl⟩ | 46, _ => ⟨_, rfl, rfl⟩ | 47, _ => ⟨_, rfl, rfl⟩ | 48, _ => ⟨_, rfl, rfl⟩ | 49, _ => ⟨_, rfl, rfl⟩ | 50, _ => ⟨_, rfl, rfl⟩ | 51, _ => ⟨_, rfl, rfl⟩ | 52, _ => ⟨_, rfl, rfl⟩ | 53, _ => ⟨_, rfl, rfl⟩ | j + 54, h => absurd h (by omega)⟩
