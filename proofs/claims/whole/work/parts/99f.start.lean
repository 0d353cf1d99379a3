/-! THE LAW's OWN WALK: two constructors, the loop, the end -/
theorem law_second {X : Cx} (hX : OkX X code R_law 13 480) (hG : OkG X 274 274) (hB : X.B = X.s.heap.size) (hc : X.R.cells = 600000) (hs : X.R.slots = 7302250) {lo : List (Option Value)} (k : GoP X (PL X m1 m2) 310 12392 15 lo [.ref (X.B + nC + 0)]) : GoN X (cut shC 274) 274 274 6073 m1 8 lo [] := by
  intro H locs ls h1 h2 h3 h4
  obtain ⟨⟨C, T, N'⟩, ty, c1, c2, c3, c4, c5, c6, c7, c8, c9⟩ := nc_L_10
  have c8 : N' = 54 := c8
  subst c8
  have hlen : (wsOf X.cA X.B (cut shC 274) 274 m1).length = 274 := ws_len
  refine va_new (fs := fsOf (X.B + 274) zM 0 (fk 11)) hX.1 hX.2.1 hX.2.2.2.1 c2 ty c3 hX.2.2.1 (hX.2.2.2.1 _ c4) (hX.2.2.2.1 _ c5) (hX.2.2.2.1 _ c6) hX.2.2.2.2.1 h1 (ws_D (fun q _ => (hG.1 _).mpr (Nat.le_add_right _ _))) h2 (fun q hq => (hG.1 q).mpr (Nat.le_trans hG.2.2.1 (by rw [← hX.2.2.2.2.2.2.2.2]; exact hq))) c1 (fun j hj => ?_) (by rw [hc]; exact Nat.le_of_ble_eq_true rfl) (by rw [hs]; exact Nat.le_of_ble_eq_true rfl) e_L_law_8.1 (fun q H1 hP hD hS' => ?_)
  · obtain ⟨t, t1, t2⟩ := c9 j hj
    rw [t2]
    show dv t = (fsOf (X.B + 274) zM 0 (fk 11)).getD j Value.null
    rw [List.getD_eq_getElem?_getD, fs_get t1, fsV_z (zM0 0)]
    rfl
  · intro T hT X2
    have hsz : H1.size ≤ X.s.heap.size + 275 := by have := X2.same.2.2.1; rw [← hT]; exact this
    have e := new_at hG hP hD hsz
    subst e
    have hg : (wsOf X.cA X.B (cut shC 274) 274 m1 ++ [(X.B + 274, .inr (11, fsOf (X.B + 274) zM 0 (fk 11)))])[274]? = some (X.B + 274, .inr (11, fsOf (X.B + 274) zM 0 (fk 11))) := by
      rw [List.getElem?_append_right (by omega), hlen]
      rfl
    have hz : H1.size = X.B + 274 + (0 + 1) := by
      have g1 : X.B + 274 < H1.size := (hP 274 _ hg).lt
      have g2 := hG.2.1
      omega
    have hP1 : va_P X.D cls (wsOf X.cA X.B (cut shC 274) 274 m1) H1 := fun k q hk => hP k q (by
      have hk' := (List.getElem?_eq_some_iff.mp hk).1
      rw [List.getElem?_append_left hk']
      exact hk)
    have hP2 : va_P X.D cls (wsOf X.cA (X.B + 274) (cut shR (0 + 1)) (0 + 1) zM) H1 := by
      intro k q hk
      obtain ⟨hk1, rfl⟩ := ws_inv hk
      have : k = 0 := by omega
      subst this
      rw [cellE_sh (sh' := shR) (cut_i (by omega)), ce_obj (ci := 11) (by decide +kernel) (by decide)]
      exact hP 274 _ hg
    have A2 : ∀ a, X.B + 274 ≤ a → X.A a := fun a h => (hG.1 a).mpr (by omega)
    refine (lv_dup hX.1 hX.2.1 e_L_law_11.1 rfl ?_ : W X.p X.l X.e X.R X.s X.m X.args X.below X.meth X.c H1 locs (274 + 1) (6073 + 54) X.Q (F0 X.m (8 + 3) ls (.ref (X.B + 274) :: []))) T hT X2
    refine va_callv (A1 := fun a => X.B + 274 ≤ a) (va_runI (Ts := WALL) (As := []) (rest := [.ref (X.B + 274)]) (b := X.B + 274 + 0) ⟨hX.1, hX.2.1, h4, hX.2.2.1, hX.2.2.2.1⟩ (i_X11 blkR (zM0 1) X.D X.cA (X.B + 274)) ⟨cgp_of hX cw_X11_init wk_1119 ⟨Nat.le_of_ble_eq_true rfl, Nat.le_of_ble_eq_true rfl⟩, rfl, hX.2.2.2.1 _ wk_1120⟩ ⟨picg_blind, fun U hU hW => ⟨rfl, by rw [hU]; exact hz, by rw [hU]; exact hP2, va_K.moved hW.alike hX.2.2.2.2.1, by rw [hU]; exact (Strs.warm hW (hX.2.2.2.2.2.2.2.1.kept hS'.2.1)).narrow A2, Nst.warm hW hG.2.2.2⟩⟩ rfl rfl h3.1 rfl (sum8 (Nat.le_of_ble_eq_true rfl) ls) e_L_law_12.1 ⟨by rw [hc]; exact Nat.le_of_ble_eq_true rfl, by rw [hs]; exact Nat.le_of_ble_eq_true rfl⟩) hS' (fun a _ h => A2 a h) (fun a h => A2 a h) (fun u t H2 locs2 ht hal hp hb hz' hkp hS2 => ?_)
    subst ht
    refine k t.heap locs2 ls ⟨?_, ?_⟩ hS2 h3 h4
    · have := ws_kept hP1 (fun q g1 g2 g3 => hkp q g1 (by omega))
      rw [ws_sh (sh := cut shC 274) (sh' := shC) (fun q h => cut_i h)] at this
      exact this
    · have := hb
      rw [ws_sh (sh := cut shR (0 + 36)) (sh' := shR) (fun q h => cut_i h)] at this
      exact this
theorem whole_start {p : Program} {e : Env} {s : State} {m : MethodId} {below : List Frame} {meth : Method} {c : Code} (l : Launch) (hflags : l.flags = flags0) {b L : Nat} {xs : Nat → Int32} (hL : L ≤ 3072) (C0 : lw_At p s m meth c b L xs) : W p l e room_1 s m #[Value.ref b] below meth c s.heap [] 0 0 (lw_Z below #[Value.ref b] s) (entryFrame m ([Value.ref b] : List Value).toArray 4) := by
  obtain ⟨hx, hb, hr, hml, hown, hts, hXs, hbl, hlocks, hgv⟩ := C0
  obtain ⟨D, K, hK, hSt, hN⟩ := world_ex (A := fun a => s.heap.size ≤ a) hts hgv (fun a h => Nat.not_le.mpr h)
  let X : Cx := (p, l, e, room_1, s, m, #[Value.ref b], below, meth, c, lw_Z below #[Value.ref b] s, D, K, s.heap.size, s.heap, fun a => s.heap.size ≤ a)
  have hX : OkX X code R_law 13 480 := ⟨hx, hb, hown, fun w h => hts w (WALL_in w h), hK, rfl, rfl, hSt, rfl⟩
  have hG : OkG X 0 0 := ⟨fun _ => Iff.rfl, rfl, Nat.le_refl _, hN⟩
  have hA : ∀ a, X.B ≤ a → X.A a := fun _ h => h
  have hn : ¬ X.A b := Nat.not_le.mpr hbl
  have kEnd : ∀ M1 M2 i, GoP X (PL X M1 M2) 310 12392 1712 [some (.ref b), some (.ref (X.B + 0)), some (.ref (X.B + nC + 0)), some (.int i)] [] := by
    intro M1 M2 i
    refine p_iconst (v := 1) hX e_L_law_1712 (by decide +kernel) ?_
    intro H locs ls h1 h2 h3 h4
    refine va_forget (fun q hq => h2.2.2 q hq) ?_
    refine W.widen (k := 600000) (n := 7302250) (Nat.le_of_ble_eq_true rfl) (Nat.le_of_ble_eq_true rfl) ?_
    exact lw_ret hx hb hr hlocks e_L_law_1713.1
  have G : GoN X (cut shC 0) 0 0 0 zM 0 [some (.ref b), none, none, none] [] := by
    refine h_new (n' := 1) (kc' := 1) (ks' := 10) hX hG e_L_law_0 nc_L_7 (zM0 0) (show shC 0 = (10, 10) by decide +kernel) rfl rfl rfl (show 1 ≤ 600000 from Nat.le_of_ble_eq_true rfl) (show 10 ≤ 7302250 from Nat.le_of_ble_eq_true rfl) ?_
    refine r_dup hX e_L_law_3 rfl ?_
    refine h_initP (q := 0) (mc := 273) (ms := 6063) (n' := 274) (kc' := 274) (ks' := 6073) hX (hG.up 1) rfl e_L_law_4 rfl (i_X10 blkC (zM0 1)) cw_X10_init rfl wk_24 wk_23 ⟨Nat.le_of_ble_eq_true rfl, Nat.le_of_ble_eq_true rfl⟩ (Nat.le_of_ble_eq_true rfl) rfl rfl (show 274 ≤ 600000 from Nat.le_of_ble_eq_true rfl) (show 6073 ≤ 7302250 from Nat.le_of_ble_eq_true rfl) ?_
    refine r_astore_n (i := 1) hX e_L_law_7 rfl (Nat.le_of_ble_eq_true rfl) rfl ?_
    refine law_second hX (hG.up 274) rfl rfl rfl ?_
    refine p_astore_n (i := 2) hX e_L_law_15 rfl (Nat.le_of_ble_eq_true rfl) rfl ?_
    refine p_iconst (v := 0) hX e_L_law_16 (by decide +kernel) ?_
    refine p_istore_n (i := 3) hX e_L_law_17 rfl (Nat.le_of_ble_eq_true rfl) rfl ?_
    exact law_loop hX hA hXs hbl hn hL ⟨show 310 ≤ 600000 from Nat.le_of_ble_eq_true rfl, show 12392 ≤ 7302250 from Nat.le_of_ble_eq_true rfl⟩ kEnd (L + 1) 0 m1 m2 (by omega) (by omega) rel_start
  have hl := lv_entry ([Value.ref b]) (n := 4) (Nat.le_of_ble_eq_true rfl)
  have hP : va_P X.D cls (wsOf X.cA X.B (cut shC 0) 0 zM) s.heap := fun k q h => by
    exfalso
    have := (List.getElem?_eq_some_iff.mp h).1
    rw [ws_len] at this
    omega
  rw [lg_entry_eq]
  exact G s.heap [] _ hP va_S.rf hl hml
