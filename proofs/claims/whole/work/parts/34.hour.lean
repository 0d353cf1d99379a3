/-! AN HOUR, class side: the whole -/
theorem begin1_loop {M : Mem} {b : Nat} {D : MK} (hH : HC M b D) (h8 : gI M 84 4 = 0) :
    ∀ n s M', s ≤ kNs D → kNs D < n + s → Only (fun a => a = 129 ∨ a = 130) M M' → (∀ x, x < s → gI M' 129 x = nI (kSl D x 4) ∧ gI M' 130 x = nI (kSl D x 3)) → ∃ M'', f_X3_begin_7 n M' 84 (nI s) = some M'' ∧ Only inM M M'' ∧ (∀ a, a = 131 ∨ a = 132 → ∀ k, gI M'' a k = gI M a k) ∧ gI M'' 84 4 = 0 ∧ (∀ x, x < kNs D → gI M'' 129 x = nI (kSl D x 4) ∧ gI M'' 130 x = nI (kSl D x 3)) ∧ (∀ y, y < kNb D → gI M'' 133 y = nI (bgS D 4 y 0) ∧ (∀ w, w < kBy D y 3 → gI M'' (135 + y) w = nI (bgS D 5 y w)) ∧ gI M'' 141 y = -3 ∧ gI M'' 128 y = (if bgS D 7 y 0 = 0 then -1 else nI (bgS D 7 y 0 - 1))) := by
  have hn := hH.2.2.2.1.n
  intro n
  induction n with
  | zero => intro s M' h1 h2; omega
  | succ n ih =>
    intro s M' h1 h2 hO hi
    show ∃ M'', s_X3_begin_7 (f_X3_begin_7 n) M' 84 (nI s) = some M'' ∧ _
    unfold s_X3_begin_7
    have hH' := hH.only (hO.mono (fun a z => by unfold inH; omega))
    have hCR := hH'.2.1
    have hms := mb_sh b hH.1
    rw [oC_84, gd_t, hH'.2.2.1, bd_t, hms.1, gd_t, hH'.2.2.2.2.1.1.2.2.2.2.1]
    by_cases hk : s = kNs D
    · subst hk
      rw [if_pos (nI_le (Nat.le_refl _) (by omega)), show (0 : Int32) = nI 0 from rfl]
      obtain ⟨M2, r1, r2, r3, r4⟩ := begin2_loop hH' FU 0 M' (by omega) (by unfold FU; omega) Only.rf (fun _ => rfl) (fun y hy => by omega)
      refine ⟨M2, r1, (hO.mono (fun a z => by unfold inM; omega)).tr (r2.mono (fun a z => by unfold inM; omega)), fun a ha k => ?_, ?_, fun x hx => ?_, r4⟩
      · rw [r2.2 a (by omega), hO.2 a (by omega)]
      · rw [r3, hO.2 84 (by omega)]
        exact h8
      · rw [r2.2 129 (by omega), r2.2 130 (by omega)]
        exact hi x hx
    have hs8 : s < 8 := by omega
    have h129 := mb_out hH.1 (a := 129) (by omega) (by omega)
    have h130 := mb_out hH.1 (a := 130) (by omega) (by omega)
    have e3 : gI (sI M' 129 s (nI (kSl D s 4))) (b + 7 + s) 3 = nI (kSl D s 3) := by
      rw [gI_sI, if_neg (by omega)]
      exact hH'.2.2.2.2.1.2.2.1 s (by omega) 3 (by decide)
    rw [if_neg (nI_ge (by omega) (by omega)), cr_84_11 hCR, bd_t, mk_7 hCR hH.1, bd_t, aB_t s hms.2.2.1 rfl (by omega) (by decide), gd_t, nI_clamp (n := s) (by omega), mk_s hCR hH.1 hs8, bd_t, hms.2.2.2.2.2.1 s hs8, gd_t, aB_t s zC_129 rfl (by omega) (by decide), gd_t, nx_t, hH'.2.2.2.2.1.2.2.1 s (by omega) 4 (by decide), cr_84_12 hCR.I, bd_t, aB_t s zC_130 rfl (by omega) (by decide), gd_t, nx_t, e3, nI_1]
    refine ih (s + 1) _ (by omega) (by omega) ((hO.I (by omega)).I (by omega)) (fun x hx => ?_)
    by_cases e : x = s
    · subst e
      exact ⟨by rw [gI_sI, if_neg (by omega), gI_sI, if_pos ⟨rfl, rfl⟩], by rw [gI_sI, if_pos ⟨rfl, rfl⟩]⟩
    · rw [gI_sI, if_neg (by omega), gI_sI, if_neg (by omega), gI_sI, if_neg (by omega), gI_sI, if_neg (by omega)]
      exact hi x (by omega)
theorem i32_nI (x : Int32) : ∃ n : Nat, x = nI n := ⟨x.toBitVec.toNat, by
  apply Int32.toBitVec_inj.mp
  show x.toBitVec = (Int32.ofNat x.toBitVec.toNat).toBitVec
  simp⟩
theorem begin_eq {M : Mem} {b : Nat} {D : MK} (hH : HC M b D) : ∃ M' H0, f_X3_begin M 84 = some M' ∧ Only inM M M' ∧ CH M' D H0 ∧ opS D 0 H0 = opS D 0 (bgS D) := by
  unfold f_X3_begin
  rw [oC_84, gd_t, nx_t]
  have hO : Only inM M (sI M 84 4 0) := Only.rf.I (by unfold inM; omega)
  obtain ⟨M', r1, r2, r3, r4, r5, r6⟩ := begin1_loop (hH.only (hO.mono (fun _ => inM_H))) (by rw [gI_sI, if_pos ⟨rfl, rfl⟩]) FU 0 (sI M 84 4 0) (by omega) (by have := hH.2.2.2.1.n; unfold FU; omega) Only.rf (fun x hx => by omega)
  obtain ⟨f2, hf2⟩ := Classical.axiomOfChoice (fun s => i32_nI (gI M' 131 s))
  obtain ⟨f3, hf3⟩ := Classical.axiomOfChoice (fun s => i32_nI (gI M' 132 s))
  refine ⟨M', fun t i j => if t = 2 ∧ i < kNs D then f2 i else if t = 3 ∧ i < kNs D then f3 i else bgS D t i j, r1, hO.tr r2, ⟨?_, fun s hs => ?_, fun y hy => ?_, fun i hi => ?_⟩, ?_⟩
  · simp [bgS]
    exact r4
  · have := r5 s hs
    simp [hs, bgS]
    exact ⟨this.1, this.2, hf2 s, hf3 s⟩
  · have := r6 y hy
    refine ⟨by simpa using this.1, fun w hw => by simpa using this.2.1 w hw, ?_, ?_⟩
    · simp [bgS]
      exact this.2.2.1
    · simpa using this.2.2.2
  · simp [bgS] at hi
  · funext t i j
    simp only [opS]
    by_cases h0 : t = 0
    · subst h0
      simp
    · by_cases h10 : t = 10
      · subst h10
        simp
      · by_cases h23 : t = 2 ∨ t = 3
        · by_cases hi : i < kNs D
          · rw [if_neg (by omega), if_neg (by omega), if_pos ⟨h23, hi⟩, if_neg (by omega), if_neg (by omega), if_pos ⟨h23, hi⟩]
          · rw [if_neg (by omega), if_neg (by omega), if_neg (by omega), if_neg (by omega), if_neg (by omega), if_neg (by omega), if_neg (by omega), if_neg (by omega)]
        · rw [if_neg (by omega), if_neg (by omega), if_neg (by omega), if_neg (by omega), if_neg (by omega), if_neg (by omega), if_neg (by omega), if_neg (by omega)]
theorem mt_out {D : MK} {m s b t i j : Nat} {H : HS} (h : 10 ≤ t) (h2 : t ≤ 12) : mtS D m s b H t i j = H t i j := by
  unfold mtS
  cases kWo D b (kSl D s 2) with
  | none => rfl
  | some w =>
    show (if H 1 s 0 = 0 ∨ H 5 b w = 0 then H else if kWt D b w 2 < H 0 s 0 ∨ H 4 b 0 < H 0 s 0 then drS H s else if wdS D H b (H 0 s 0) (kWt D b w 2) m = true then slS D H m s b w else H) t i j = H t i j
    by_cases c1 : H 1 s 0 = 0 ∨ H 5 b w = 0
    · rw [if_pos c1]
    rw [if_neg c1]
    by_cases c2 : kWt D b w 2 < H 0 s 0 ∨ H 4 b 0 < H 0 s 0
    · rw [if_pos c2]
      simp [drS, show ¬ t = 3 by omega]
    rw [if_neg c2]
    by_cases c3 : wdS D H b (H 0 s 0) (kWt D b w 2) m = true
    · rw [if_pos c3]
      simp [slS, show ¬ t = 5 by omega, show ¬ t = 1 by omega, show ¬ t = 4 by omega, show ¬ t = 2 by omega, show ¬ t = 6 by omega, show ¬ t = 13 by omega, show ¬ t = 7 by omega, show ¬ t = 9 by omega, show ¬ t = 8 by omega]
    · rw [if_neg c3]
theorem trB_out {D : MK} {m p s t i j : Nat} {H : HS} (h : 10 ≤ t) (h2 : t ≤ 12) : ∀ k, trB D m p s H k t i j = H t i j
  | 0 => rfl
  | k + 1 => by
    unfold trB
    split
    · rw [mt_out h h2]; exact trB_out h h2 k
    · exact trB_out h h2 k
theorem trS_out {D : MK} {m p t i j : Nat} {H : HS} (h : 10 ≤ t) (h2 : t ≤ 12) : ∀ k, trS D m p H k t i j = H t i j
  | 0 => rfl
  | k + 1 => by
    unfold trS
    split
    · rw [trB_out h h2]; exact trS_out h h2 k
    · exact trS_out h h2 k
theorem trP_out {D : MK} {m t i j : Nat} {H : HS} (h : 10 ≤ t) (h2 : t ≤ 12) : ∀ k, trP D m H k t i j = H t i j
  | 0 => rfl
  | k + 1 => by
    unfold trP
    rw [trS_out h h2]
    exact trP_out h h2 k
theorem playP_loop {M : Mem} {b m : Nat} {D : MK} {H : HS} (hH : HC M b D) (hv : IvH D m H) (hm : m < kMi D) (ha : CTa M D H (m + 1)) (hl : CTl M D H m) (hp : CTp M D H m) (k19 : Mem → Nat → Nat → Int32 → Option Mem) :
    ∀ n p M', p ≤ kP D → kP D < n + p → Only inM M M' → CH M' D (trP D m H p) → ∃ M'', f_X3_play_34 k19 n M' 84 b (nI m) (nI p) = k19 M'' 84 b (nI (m + 1)) ∧ Only inH M M'' ∧ CH M'' D (clS D m (trP D m H (kP D))) ∧ CTa M'' D (clS D m (trP D m H (kP D))) (m + 1) ∧ CTl M'' D (clS D m (trP D m H (kP D))) (m + 1) ∧ CTp M'' D (clS D m (trP D m H (kP D))) (m + 1) := by
  have hW := hH.2.2.2.1
  have hn := hW.n
  have hP := hW.p
  have hMi := hW.mi
  intro n
  induction n with
  | zero => intro s M' h1 h2; omega
  | succ n ih =>
    intro p M' h1 h2 hO hc
    show ∃ M'', s_X3_play_34 k19 (f_X3_play_34 k19 n) M' 84 b (nI m) (nI p) = _ ∧ _
    unfold s_X3_play_34
    have hH' := hH.only (hO.mono (fun _ => inM_H))
    rw [(mb_sh b hH.1).1, gd_t, hH'.2.2.2.2.1.1.1, oC_84, gd_t, gd_t]
    by_cases hk : p = kP D
    · subst hk
      rw [if_pos (nI_le (Nat.le_refl _) (by omega))]
      have iv := iv_trP hv hW (kP D)
      have ta : CTa M' D (trP D m H (kP D)) (m + 1) := fun x hx j hj => by
        rw [hO.2 _ (by unfold inM; omega), trP_out (by decide) (by decide)]
        exact ha x hx j hj
      have tl : CTl M' D (trP D m H (kP D)) m := fun x hx j hj => by
        rw [hO.2 _ (by unfold inM; omega), trP_out (by decide) (by decide)]
        exact hl x hx j hj
      have tp : CTp M' D (trP D m H (kP D)) m := fun x hx j hj => by
        rw [hO.2 _ (by unfold inM; omega), trP_out (by decide) (by decide)]
        exact hp x hx j hj
      obtain ⟨M2, r1, r2, r3, r4, r5, r6⟩ := close_loop hH' hm (fun s hs => ⟨(iv.1 s hs).1, (iv.1 s hs).2.2.1, (iv.1 s hs).2.2.2⟩) ta tp FU 0 M' (by omega) (by unfold FU; omega) Only.rf (fun _ _ _ => rfl) (hc.cong (fun _ _ _ => rfl) (fun t i j ht => by simp [clK, show ¬ t = 11 by omega]) hn.2.2) (fun x hx j hj => tl x hx j hj) (fun x hx => by omega)
      have e : f_X3_closeMinute M' 84 (nI m) = some M2 := r1
      rw [e, bd_t, nI_1]
      exact ⟨M2, rfl, (hO.mono (fun _ => inM_H)).tr r2, r3, r4, r5, r6⟩
    · rw [if_neg (nI_ge (by omega) (by omega))]
      obtain ⟨M2, r1, r2, r3⟩ := tradeAt_eq hH' hc (iv_trP hv hW p) (p := p) (by omega) hm
      rw [r1, bd_t, nI_1]
      exact ih (p + 1) M2 (by omega) (by omega) (hO.tr r2) r3
/-- the hour that lies in the class's memory is that of D -/
def HourC (M : Mem) (b : Nat) (D : MK) : Prop := gR M 84 10 = some b ∧ TnC M D ∧ (∀ s, s < kNs D → PlC M D s) ∧ CH M D (hrS D (kMi D)) ∧ CTa M D (hrS D (kMi D)) (kMi D) ∧ CTl M D (hrS D (kMi D)) (kMi D) ∧ CTp M D (hrS D (kMi D)) (kMi D)
theorem playM_loop {M : Mem} {b : Nat} {D : MK} (hH : HC M b D) :
    ∀ n m M' H0, m ≤ kMi D → kMi D < n + m → Only inH M M' → CH M' D H0 → (opS D m H0 = opS D m (hrS D m)) → (kMi D ≤ m → H0 = hrS D m) → CTa M' D (hrS D m) m → CTl M' D (hrS D m) m → CTp M' D (hrS D m) m → ∃ M'', f_X3_play_19 n M' 84 b (nI m) = some M'' ∧ Only inH M M'' ∧ CH M'' D (hrS D (kMi D)) ∧ CTa M'' D (hrS D (kMi D)) (kMi D) ∧ CTl M'' D (hrS D (kMi D)) (kMi D) ∧ CTp M'' D (hrS D (kMi D)) (kMi D) := by
  have hW := hH.2.2.2.1
  have hn := hW.n
  have hMi := hW.mi
  intro n
  induction n with
  | zero => intro s M' H0 h1 h2; omega
  | succ n ih =>
    intro m M' H0 h1 h2 hO hc hop hend ha hl hp
    show ∃ M'', s_X3_play_19 (f_X3_play_19 n) M' 84 b (nI m) = some M'' ∧ _
    unfold s_X3_play_19
    have hH' := hH.only hO
    rw [(mb_sh b hH.1).1, gd_t, hH'.2.2.2.2.1.1.2.1, oC_84, gd_t]
    by_cases hk : m = kMi D
    · subst hk
      rw [if_pos (nI_le (Nat.le_refl _) (by omega))]
      rw [hend (Nat.le_refl _)] at hc
      exact ⟨M', rfl, hO, hc, ha, hl, hp⟩
    rw [if_neg (nI_ge (by omega) (by omega))]
    have hm : m < kMi D := by omega
    have ha0 : CTa M' D H0 m := fun x hx j hj => by
      rw [ha x hx j hj]
      have e : opS D m H0 10 x j = opS D m (hrS D m) 10 x j := by rw [hop]
      simp only [opS] at e
      rw [if_neg (by omega), if_neg (by omega), if_neg (by omega), if_neg (by omega), if_neg (by omega), if_neg (by omega)] at e
      rw [e]
    obtain ⟨M2, r1, r2, r3, r4, r5⟩ := open_loop hH' hm (H := H0) FU 0 M' (by omega) (by unfold FU; omega) Only.rf (fun _ _ _ => rfl) (hc.cong (fun _ _ _ => rfl) (fun t i j ht => by simp [opK]) hn.2.2) ha0 (fun x hx => by omega)
    have e : f_X3_openMinute M' 84 (nI m) = some M2 := r1
    rw [e, bd_t, show (0 : Int32) = nI 0 from rfl]
    rw [hop] at r4 r5
    have hH2 := hH'.only r2
    obtain ⟨M3, q1, q2, q3, q4, q5, q6⟩ := playP_loop hH2 (iv_op hW (iv_hr hW m)) hm r5 (fun x hx j hj => by
      rw [r3 _ (by omega), hl x hx j hj]
      simp [opS]) (fun x hx j hj => by
      rw [r3 _ (by omega), hp x hx j hj]
      simp [opS]) (f_X3_play_19 n) FU 0 M2 (by omega) (by unfold FU; have := hW.p; omega) Only.rf r4
    rw [q1]
    exact ih (m + 1) M3 (hrS D (m + 1)) (by omega) (by omega) ((hO.tr r2).tr q2) q3 rfl (fun _ => rfl) q4 q5 q6
theorem CR.w84 {M : Mem} {v : Option Nat} (h : CR M) : CR (sR M 84 10 v) := fun a k q => by
  rw [gR_sR, if_neg]
  · exact h a k q
  · rintro ⟨rfl, rfl⟩
    cases q
/-- two memories of the class that agree but for the hour and its course -/
def KeepH (M M' : Mem) : Prop := (∀ a, ¬ (84 ≤ a ∧ a ≤ 141) → ∀ k, gI M' a k = gI M a k) ∧ (∀ a k, gL M' a k = gL M a k) ∧ ∀ a k, ¬ (a = 84 ∧ k = 10) → gR M' a k = gR M a k
theorem play_eq {M : Mem} {b : Nat} {D : MK} (hb : b ∈ MB) (hCR : CR M) (hW : WFD D) (hC : CM M b D) (h0 : 0 < kMi D) : ∃ M', f_X3_play M 84 b = some M' ∧ CR M' ∧ KeepH M M' ∧ HourC M' b D := by
  unfold f_X3_play
  rw [oC_84, gd_t, nx_t, cr_84_0 hCR.w84, bd_t, oC_85, gd_t]
  have hC1 : CM (sR M 84 10 (some b)) b D := hC
  obtain ⟨M2, e2, o2, t2, p2⟩ := follow_eq hb hCR.w84 hW hC1
  have hH : HC M2 b D := ⟨hb, o2.CR hCR.w84, by rw [o2.gR, gR_sR, if_pos ⟨rfl, rfl⟩], hW, hC1.only hW.n o2 (fun a q1 q2 z => by
    have := mb_out hb (a := a) (by unfold inCo at z; omega) (by unfold inCo at z; omega)
    omega), t2, p2⟩
  rw [e2, bd_t]
  obtain ⟨M3, H0, e3, o3, c3, s3⟩ := begin_eq hH
  rw [e3, bd_t, show (0 : Int32) = nI 0 from rfl]
  obtain ⟨M4, e4, o4, c4, a4, l4, u4⟩ := playM_loop (hH.only (o3.mono (fun _ => inM_H))) FU 0 M3 H0 (by omega) (by have := hW.mi; unfold FU; omega) Only.rf c3 s3 (fun z => by omega) (fun x hx j hj => by omega) (fun x hx j hj => by omega) (fun x hx j hj => by omega)
  have o34 : Only inH M2 M4 := (o3.mono (fun _ => inM_H)).tr o4
  have hH4 := hH.only o34
  refine ⟨M4, e4, hH4.2.1, ⟨fun a ha k => ?_, fun a k => ?_, fun a k h => ?_⟩, hH4.2.2.1, hH4.2.2.2.2.2.1, hH4.2.2.2.2.2.2, c4, a4, l4, u4⟩
  · rw [o34.2 a (by unfold inH; omega), o2.2 a (by unfold inCo; omega)]
    rfl
  · rw [o34.gL, o2.gL]
    rfl
  · rw [o34.gR, o2.gR, gR_sR, if_neg h]
