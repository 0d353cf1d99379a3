/-! ALL: sums over buyers, the busiest minute -/
def laS (D : MK) (H : HS) : Nat → Nat
  | 0 => 0
  | b + 1 => laS D H b + lkS H b (kBy D b 3)
theorem laS_s {D : MK} {H : HS} {b : Nat} : laS D H (b + 1) = laS D H b + lkS H b (kBy D b 3) := rfl
def dnS (D : MK) (H : HS) : Nat → Nat
  | 0 => 0
  | b + 1 => dnS D H b + if lkS H b (kBy D b 3) = 0 then 1 else 0
theorem dnS_s {D : MK} {H : HS} {b : Nat} : dnS D H (b + 1) = dnS D H b + if lkS H b (kBy D b 3) = 0 then 1 else 0 := rfl
def cnS (H : HS) (m : Nat) : Nat → Nat
  | 0 => 0
  | i + 1 => cnS H m i + if H 9 i 0 = m then 1 else 0
theorem cnS_s {H : HS} {m i : Nat} : cnS H m (i + 1) = cnS H m i + if H 9 i 0 = m then 1 else 0 := rfl
theorem cnS_0 {H : HS} {m : Nat} : ∀ n, (∀ i, i < n → H 9 i 0 ≠ m) → cnS H m n = 0
  | 0, _ => rfl
  | n + 1, h => by
    rw [cnS_s, cnS_0 n (fun i hi => h i (by omega)), if_neg (h n (by omega))]
theorem cnS_ex {H : HS} {m : Nat} : ∀ n, 0 < cnS H m n → ∃ i, i < n ∧ H 9 i 0 = m
  | 0, h => by exact absurd h (Nat.lt_irrefl _)
  | n + 1, h => by
    rw [cnS_s] at h
    by_cases e : H 9 n 0 = m
    · exact ⟨n, by omega, e⟩
    · rw [if_neg e] at h
      obtain ⟨i, hi, hm⟩ := cnS_ex n h
      exact ⟨i, by omega, hm⟩
theorem cnS_le {H : HS} {m : Nat} : ∀ n, cnS H m n ≤ n
  | 0 => Nat.le_refl _
  | n + 1 => by
    have := cnS_le (H := H) (m := m) n
    rw [cnS_s]
    split <;> omega
def Bz (H : HS) (n : Nat) (r : Int32) (mo : Nat) : Prop := ((∀ m, cnS H m n = 0) ∧ r = -1 ∧ mo = 0) ∨ ∃ b, r = nI b ∧ mo = cnS H b n ∧ 0 < mo ∧ (∀ m, cnS H m n ≤ mo) ∧ ∀ m, m < b → cnS H m n < mo
theorem Bz.uniq {H : HS} {n mo mo' : Nat} {r r' : Int32} (h : Bz H n r mo) (h' : Bz H n r' mo') : r = r' := by
  rcases h with ⟨a1, a2, a3⟩ | ⟨b, a1, a2, a3, a4, a5⟩ <;> rcases h' with ⟨c1, c2, c3⟩ | ⟨b', c1, c2, c3, c4, c5⟩
  · rw [a2, c2]
  · have := a1 b'
    omega
  · have := c1 b
    omega
  · have : b = b' := by
      have q1 := a4 b'
      have q2 := c4 b
      rcases Nat.lt_trichotomy b b' with z | z | z
      · have := c5 b z
        omega
      · exact z
      · have := a5 b' z
        omega
    rw [a1, c1, this]
theorem Bz.le {H : HS} {n mo : Nat} {r : Int32} (h : Bz H n r mo) : mo ≤ n := by
  rcases h with ⟨a1, a2, a3⟩ | ⟨b, a1, a2, a3, a4, a5⟩
  · omega
  · have := cnS_le (H := H) (m := b) n
    omega
theorem Bz.step {H : HS} {k mo he : Nat} {r : Int32} (h : Bz H k r mo) (hs : ∀ i, i < k → H 9 i 0 ≤ H 9 k 0) (he' : he = cnS H (H 9 k 0) (k + 1)) : if he ≤ mo then Bz H (k + 1) r mo else Bz H (k + 1) (nI (H 9 k 0)) he := by
  have e1 : cnS H (H 9 k 0) (k + 1) = cnS H (H 9 k 0) k + 1 := by rw [cnS_s, if_pos rfl]
  have e2 : ∀ m, m ≠ H 9 k 0 → cnS H m (k + 1) = cnS H m k := fun m hm => by rw [cnS_s, if_neg (fun z => hm z.symm), Nat.add_zero]
  split
  · rename_i c
    rcases h with ⟨a1, a2, a3⟩ | ⟨b, a1, a2, a3, a4, a5⟩
    · omega
    · have hb : b ≠ H 9 k 0 := by
        intro z
        rw [← z] at e1 he'
        omega
      refine Or.inr ⟨b, a1, by rw [e2 b hb]; exact a2, a3, fun m => ?_, fun m hm => ?_⟩
      · by_cases z : m = H 9 k 0
        · rw [z]; omega
        · rw [e2 m z]; exact a4 m
      · by_cases z : m = H 9 k 0
        · obtain ⟨i, hi, hb'⟩ := cnS_ex k (show 0 < cnS H b k by omega)
          have := hs i hi
          omega
        · rw [e2 m z]; exact a5 m hm
  · rename_i c
    have hmo : ∀ m, cnS H m k ≤ mo := by
      rcases h with ⟨a1, a2, a3⟩ | ⟨b, a1, a2, a3, a4, a5⟩
      · intro m; rw [a1 m]; omega
      · exact a4
    refine Or.inr ⟨H 9 k 0, rfl, he', by omega, fun m => ?_, fun m hm => ?_⟩
    · by_cases z : m = H 9 k 0
      · rw [z]; omega
      · rw [e2 m z]; have := hmo m; omega
    · rw [e2 m (by omega)]
      have := hmo m
      omega
section EHx
variable {M : Mem} {p : Nat} {D : MK}
theorem EH.hc (e : EH M p D) : HC M p D := ⟨e.2.1, e.1, e.2.2.2.2.1.1, e.2.2.1, e.2.2.2.1, e.2.2.2.2.1.2.1, e.2.2.2.2.1.2.2.1⟩
theorem EH.g10 (e : EH M p D) : gR M 84 10 = some p := e.2.2.2.2.1.1
theorem EH.oP (e : EH M p D) : oB shC p 4 = true := (mb_sh p e.2.1).1
theorem EH.g5 (e : EH M p D) : gI M p 5 = nI (kNb D) := e.2.2.2.1.1.2.2.2.2.2
theorem EH.by (e : EH M p D) {b : Nat} (hb : b < kNb D) : (∀ w, w < kBy D b 3 → gI M (135 + b) w = nI (hrS D (kMi D) 5 b w)) ∧ gI M 128 b = (if hrS D (kMi D) 7 b 0 = 0 then -1 else nI (hrS D (kMi D) 7 b 0 - 1)) := ⟨(e.2.2.2.2.1.2.2.2.1.2.2.1 b hb).2.1, (e.2.2.2.2.1.2.2.2.1.2.2.1 b hb).2.2.2⟩
theorem lackInAll_eq (e : EH M p D) : f_X3_lackInAll M 84 = some (nI (laS D (hrS D (kMi D)) (kNb D))) := by
  have hb := e.2.2.1.n
  have key := acc_loop (F := fun n c k => f_X3_lackInAll_4 M n 84 c k) (A := fun k => nI (laS D (hrS D (kMi D)) k)) (N := kNb D) (R := some) (fun n k hk => by
    show s_X3_lackInAll_4 M (f_X3_lackInAll_4 M n) 84 _ (nI k) = _
    unfold s_X3_lackInAll_4
    rw [oC_84, gd_t, e.g10, bd_t, e.oP, gd_t, e.g5, if_neg (nI_ge hk (by omega)), lackOf_eq e.hc hk (e.by hk).1, bd_t, laS_s, nI_1, nI_add]) (fun n => by
    show s_X3_lackInAll_4 M (f_X3_lackInAll_4 M n) 84 _ _ = _
    unfold s_X3_lackInAll_4
    rw [oC_84, gd_t, e.g10, bd_t, e.oP, gd_t, e.g5, if_pos (nI_le (Nat.le_refl _) (by omega))])
  exact key FU 0 (by omega) (by unfold FU; omega)
theorem d7_le (hW : WFD D) {b : Nat} (hb : b < kNb D) : hrS D (kMi D) 7 b 0 ≤ 61 := by
  have h := ((iv_hr hW (kMi D)).2.2.2 b hb).2.1
  have := hW.mi
  omega
theorem buyersDone_eq (e : EH M p D) : f_X3_buyersDone M 84 = some (nI (dnS D (hrS D (kMi D)) (kNb D))) := by
  have hb := e.2.2.1.n
  have key := acc_loop (F := fun n c k => f_X3_buyersDone_4 M n 84 c k) (A := fun k => nI (dnS D (hrS D (kMi D)) k)) (N := kNb D) (R := some) (fun n k hk => by
    show s_X3_buyersDone_4 M (f_X3_buyersDone_4 M n) 84 _ (nI k) = _
    have y := (iy_hr e.2.2.1 (kMi D) e.2.2.1.mi).2.2 k hk
    have y2 := d7_le e.2.2.1 hk
    unfold s_X3_buyersDone_4
    rw [oC_84, gd_t, e.g10, bd_t, e.oP, gd_t, e.g5, if_neg (nI_ge hk (by omega)), cr_84_9 e.1, bd_t, aB_t k zC_128 rfl (by omega) (by decide), gd_t, nI_clamp (by omega), (e.by hk).2, dnS_s, nI_1]
    by_cases q : hrS D (kMi D) 7 k 0 = 0
    · rw [if_pos q, if_pos rfl, if_neg (by have := y.mp q; omega)]
      rfl
    · rw [if_neg q, if_neg (ne_m1 (by omega)), if_pos (by
        rcases Nat.eq_zero_or_pos (lkS (hrS D (kMi D)) k (kBy D k 3)) with z | z
        · exact z
        · exact absurd (y.mpr z) q), nI_1]) (fun n => by
    show s_X3_buyersDone_4 M (f_X3_buyersDone_4 M n) 84 _ _ = _
    unfold s_X3_buyersDone_4
    rw [oC_84, gd_t, e.g10, bd_t, e.oP, gd_t, e.g5, if_pos (nI_le (Nat.le_refl _) (by omega))])
  exact key FU 0 (by omega) (by unfold FU; omega)
theorem srt (hW : WFD D) : ∀ d i, i + d < hrS D (kMi D) 8 0 0 → hrS D (kMi D) 9 i 0 ≤ hrS D (kMi D) 9 (i + d) 0
  | 0, _, _ => Nat.le_refl _
  | d + 1, i, h => by
    have h1 := srt hW d i (by omega)
    have h2 := (iy_hr hW (kMi D) hW.mi).2.1 (i + d) (by omega)
    rw [← Nat.add_assoc]
    omega
theorem busiest61 (e : EH M p D) {k mo he : Nat} {r : Int32} (hk : k < hrS D (kMi D) 8 0 0) (hm : mo ≤ 1000) (hh : he ≤ 1000) (k9 : Nat → Int32 → Int32 → Int32 → Int32 → Option Int32) : f_X3_busiestMinute_61 M k9 84 r (nI mo) (nI k) (nI he) = if he ≤ mo then k9 84 r (nI mo) (nI he) (nI (k + 1)) else k9 84 (nI (hrS D (kMi D) 9 k 0)) (nI he) (nI he) (nI (k + 1)) := by
  have hn := e.n
  unfold f_X3_busiestMinute_61
  by_cases c : he ≤ mo
  · rw [if_pos (nI_le c (by omega)), if_pos c, nI_1]
  · rw [if_neg (nI_ge (by omega) (by omega)), if_neg c, oC_84, gd_t, cr_84_5 e.1, bd_t, aB_t k zC_124 rfl (by omega) (by decide), gd_t, nI_clamp (by omega), (e.sa hk).1, nI_1]
theorem busiest_eq (e : EH M p D) : ∃ r mo, f_X3_busiestMinute M 84 = some r ∧ Bz (hrS D (kMi D)) (hrS D (kMi D) 8 0 0) r mo := by
  have hn := e.n
  have hW := e.2.2.1
  have key : ∀ n k r mo he, k ≤ hrS D (kMi D) 8 0 0 → hrS D (kMi D) 8 0 0 < n + k → Bz (hrS D (kMi D)) k r mo → (he ≤ k ∧ (0 < k → he = cnS (hrS D (kMi D)) (hrS D (kMi D) 9 (k - 1) 0) k)) → ∃ r' mo', f_X3_busiestMinute_9 M n 84 r (nI mo) (nI he) (nI k) = some r' ∧ Bz (hrS D (kMi D)) (hrS D (kMi D) 8 0 0) r' mo' := by
    intro n
    induction n with
    | zero => intro k r mo he h1 h2; omega
    | succ n ih =>
      intro k r mo he h1 h2 hz hh
      have hmo := hz.le
      show ∃ r' mo', s_X3_busiestMinute_9 M (f_X3_busiestMinute_9 M n) 84 r (nI mo) (nI he) (nI k) = some r' ∧ _
      unfold s_X3_busiestMinute_9
      rw [oC_84, gd_t, e.g4]
      by_cases hk : k = hrS D (kMi D) 8 0 0
      · rw [if_pos (by rw [hk]; exact nI_le (Nat.le_refl _) (by omega))]
        exact ⟨r, mo, rfl, by rw [← hk]; exact hz⟩
      have hk' : k < hrS D (kMi D) 8 0 0 := by omega
      rw [if_neg (nI_ge hk' (by omega))]
      have fin : ∀ he', he' = cnS (hrS D (kMi D)) (hrS D (kMi D) 9 k 0) (k + 1) → ∃ r' mo', f_X3_busiestMinute_61 M (f_X3_busiestMinute_9 M n) 84 r (nI mo) (nI k) (nI he') = some r' ∧ Bz (hrS D (kMi D)) (hrS D (kMi D) 8 0 0) r' mo' := by
        intro he' e'
        have l1 := cnS_le (H := hrS D (kMi D)) (m := hrS D (kMi D) 9 k 0) (k + 1)
        have st := hz.step (fun i hi => by
          have := srt hW (k - i) i (by omega)
          rw [show i + (k - i) = k by omega] at this
          exact this) e'
        rw [busiest61 e hk' (by omega) (by omega)]
        by_cases c : he' ≤ mo
        · rw [if_pos c] at st ⊢
          exact ih (k + 1) r mo he' (by omega) (by omega) st ⟨by omega, fun _ => by rw [Nat.add_sub_cancel]; exact e'⟩
        · rw [if_neg c] at st ⊢
          exact ih (k + 1) _ he' he' (by omega) (by omega) st ⟨by omega, fun _ => by rw [Nat.add_sub_cancel]; exact e'⟩
      have new : (∀ i, i < k → hrS D (kMi D) 9 i 0 ≠ hrS D (kMi D) 9 k 0) → ∃ r' mo', f_X3_busiestMinute_46 M (f_X3_busiestMinute_9 M n) 84 r (nI mo) (nI he) (nI k) = some r' ∧ Bz (hrS D (kMi D)) (hrS D (kMi D) 8 0 0) r' mo' := by
        intro q
        unfold f_X3_busiestMinute_46 f_X3_busiestMinute_47
        rw [if_pos rfl]
        exact fin 1 (by rw [cnS_s, cnS_0 k q, if_pos rfl])
      by_cases k0 : k = 0
      · rw [if_pos (by rw [k0]; decide)]
        exact new (fun i hi => by omega)
      obtain ⟨j, rfl⟩ : ∃ j, k = j + 1 := ⟨k - 1, by omega⟩
      rw [if_neg (nI_nle (by omega) (by omega)), cr_84_5 e.1, bd_t, aB_t (j + 1) zC_124 rfl (by omega) (by decide), gd_t, nI_pred, aB_t j zC_124 rfl (by omega) (by decide), gd_t, nI_clamp (n := j + 1) (by omega), nI_clamp (n := j) (by omega), (e.sa hk').1, (e.sa (i := j) (by omega)).1]
      have s1 := e.sl hk'
      have s2 := e.sl (i := j) (by omega)
      have hMi := hW.mi
      by_cases q : hrS D (kMi D) 9 (j + 1) 0 = hrS D (kMi D) 9 j 0
      · rw [if_pos (by rw [q])]
        unfold f_X3_busiestMinute_47
        rw [if_neg (show ¬ (1 : Int32) = 0 by decide), nI_1]
        refine fin (he + 1) ?_
        have := hh.2 (by omega)
        rw [Nat.add_sub_cancel] at this
        rw [cnS_s, if_pos rfl, q, this]
      · rw [if_neg (fun z => q ((nI_eq (by omega) (by omega)).mp z))]
        refine new (fun i hi z => ?_)
        have h3 := srt hW (j - i) i (by omega)
        rw [show i + (j - i) = j by omega] at h3
        have h4 := srt hW 1 j (by omega)
        omega
  exact key FU 0 (-1) 0 0 (by omega) (by unfold FU; omega) (Or.inl ⟨fun _ => rfl, rfl, rfl⟩) ⟨by omega, fun z => by omega⟩
end EHx
section RA
variable {M : Mem} {D : MK}
theorem RE.lk (u : RE M D) {b : Nat} (hb : b < kNb D) : f_X11_lackOf M 0 (nI b) = some (nI (lkS (hrS D (kMi D)) b (kBy D b 3))) := by
  have := u.1.2.1.n
  exact lackOfR_eq u.1.1 (by omega) (u.1.2.1.2.2.2.2.2.2 b hb).2.2.2.1 (u.2.1.2.2.1 b hb).2.2.2.1
theorem all56_2 (u : RE M D) : f_X11_all_56 FU M 0 (nI 2) 0 0 = some (M, nI (laS D (hrS D (kMi D)) (kNb D))) := by
  have hb := u.1.2.1.n
  have key := acc_loop (F := fun n c k => f_X11_all_56 n M 0 (nI 2) c k) (A := fun k => nI (laS D (hrS D (kMi D)) k)) (N := kNb D) (R := fun c => some (M, c)) (fun n k hk => by
    show s_X11_all_56 (f_X11_all_56 n) M 0 (nI 2) _ (nI k) = _
    unfold s_X11_all_56
    rw [oR, gd_t, rr_17 u.1.1, bd_t, aB_l (i := 4) zR_7 (by decide), gd_t, u.1.nb, if_neg (nI_ge hk (by omega)), if_pos (show nI 2 = 2 from rfl), u.lk hk, bd_t, laS_s, nI_1, nI_add]) (fun n => by
    show s_X11_all_56 (f_X11_all_56 n) M 0 (nI 2) _ _ = _
    unfold s_X11_all_56
    rw [oR, gd_t, rr_17 u.1.1, bd_t, aB_l (i := 4) zR_7 (by decide), gd_t, u.1.nb, if_pos (nI_le (Nat.le_refl _) (by omega)), if_neg (show ¬ (4 : Int32) ≤ nI 2 by decide)])
  exact key FU 0 (by omega) (by unfold FU; omega)
theorem all56_n (u : RE M D) {x : Int32} (hx : ¬ x = 2) : f_X11_all_56 FU M 0 x 0 0 = if 4 ≤ x then f_X11_all_116 FU M 0 (-1) 0 0 else some (M, nI (dnS D (hrS D (kMi D)) (kNb D))) := by
  have hb := u.1.2.1.n
  have key := acc_loop (F := fun n c k => f_X11_all_56 n M 0 x c k) (A := fun k => nI (dnS D (hrS D (kMi D)) k)) (N := kNb D) (R := fun c => if 4 ≤ x then f_X11_all_116 FU M 0 (-1) 0 0 else some (M, c)) (fun n k hk => by
    show s_X11_all_56 (f_X11_all_56 n) M 0 x _ (nI k) = _
    have hl := lkS_le (H := hrS D (kMi D)) (b := k) ((iv_hr u.1.2.1 (kMi D)).2.1 k hk).2 (kBy D k 3) (u.1.2.1.2.2.2.2.2.2 k hk).2.2.2.1
    have hw3 := (u.1.2.1.2.2.2.2.2.2 k hk).2.2.2.1
    unfold s_X11_all_56
    rw [oR, gd_t, rr_17 u.1.1, bd_t, aB_l (i := 4) zR_7 (by decide), gd_t, u.1.nb, if_neg (nI_ge hk (by omega)), if_neg hx, u.lk hk, bd_t, dnS_s, nI_1]
    by_cases q : lkS (hrS D (kMi D)) k (kBy D k 3) = 0
    · rw [if_pos (by rw [q]; rfl), if_pos q, nI_1]
    · rw [if_neg (nI_ne0 (by omega) (by omega)), if_neg q, Int32.add_zero, nI_1]
      rfl) (fun n => by
    show s_X11_all_56 (f_X11_all_56 n) M 0 x _ _ = _
    unfold s_X11_all_56
    rw [oR, gd_t, rr_17 u.1.1, bd_t, aB_l (i := 4) zR_7 (by decide), gd_t, u.1.nb, if_pos (nI_le (Nat.le_refl _) (by omega))])
  exact key FU 0 (by omega) (by unfold FU; omega)
theorem all133 (u : RE M D) {m mo : Nat} {r : Int32} (hm : m < 60) (hmo : mo ≤ 1000) (k116 : Mem → Nat → Int32 → Int32 → Int32 → Option (Mem × Int32)) : f_X11_all_133 k116 FU M 0 r (nI mo) (nI m) 0 0 = if mo < cnS (hrS D (kMi D)) m (hrS D (kMi D) 8 0 0) then k116 M 0 (nI m) (nI (cnS (hrS D (kMi D)) m (hrS D (kMi D) 8 0 0))) (nI (m + 1)) else k116 M 0 r (nI mo) (nI (m + 1)) := by
  have hn := n_hr u.1.2.1 (kMi D)
  have l1 := cnS_le (H := hrS D (kMi D)) (m := m) (hrS D (kMi D) 8 0 0)
  have key := acc_loop (F := fun n c k => f_X11_all_133 k116 n M 0 r (nI mo) (nI m) c k) (A := fun k => nI (cnS (hrS D (kMi D)) m k)) (N := hrS D (kMi D) 8 0 0) (R := fun c => if nI mo < c then k116 M 0 (nI m) c (nI (m + 1)) else k116 M 0 r (nI mo) (nI (m + 1))) (fun n k hk => by
    show s_X11_all_133 k116 (f_X11_all_133 k116 n) M 0 r (nI mo) (nI m) _ (nI k) = _
    have hs := (iy_hr u.1.2.1 (kMi D) u.1.2.1.mi).1 k hk
    have hMi := u.1.2.1.mi
    unfold s_X11_all_133
    rw [oR, gd_t, u.2.1.1.1, if_neg (nI_ge hk (by omega)), rr_45 u.1.1, bd_t, m4_0, aB_t (4 * k) zR_31 rfl (by omega) (by decide), gd_t, nI_clamp (by omega), show gI M 31 (4 * k) = nI (hrS D (kMi D) 9 k 0) from u.2.1.2.2.2 k hk 0 (by decide), cnS_s, nI_1]
    by_cases q : hrS D (kMi D) 9 k 0 = m
    · rw [if_pos (by rw [q]), if_pos q, nI_1]
    · rw [if_neg (fun z => q ((nI_eq (by omega) (by omega)).mp z)), if_neg q, Int32.add_zero, nI_1]
      rfl) (fun n => by
    show s_X11_all_133 k116 (f_X11_all_133 k116 n) M 0 r (nI mo) (nI m) _ _ = _
    unfold s_X11_all_133
    rw [oR, gd_t, u.2.1.1.1, if_pos (nI_le (Nat.le_refl _) (by omega)), nI_1])
  have k2 := key FU 0 (by omega) (by unfold FU; omega)
  rw [show nI (cnS (hrS D (kMi D)) m 0) = 0 from rfl, show nI 0 = 0 from rfl] at k2
  rw [k2]
  by_cases q : mo < cnS (hrS D (kMi D)) m (hrS D (kMi D) 8 0 0)
  · rw [if_pos q, if_pos (nI_lt q (by omega))]
  · rw [if_neg q, if_neg (nI_nlt (by omega) (by omega))]
def Bw (H : HS) (N k : Nat) (r : Int32) (mo : Nat) : Prop := ((∀ m, m < k → cnS H m N = 0) ∧ r = -1 ∧ mo = 0) ∨ ∃ b, b < k ∧ r = nI b ∧ mo = cnS H b N ∧ 0 < mo ∧ (∀ m, m < k → cnS H m N ≤ mo) ∧ ∀ m, m < b → cnS H m N < mo
theorem all116 (u : RE M D) : ∃ r mo, f_X11_all_116 FU M 0 (-1) 0 0 = some (M, r) ∧ Bz (hrS D (kMi D)) (hrS D (kMi D) 8 0 0) r mo := by
  have hn := n_hr u.1.2.1 (kMi D)
  have hMi := u.1.2.1.mi
  have key : ∀ n k r mo, k ≤ kMi D → kMi D < n + k → Bw (hrS D (kMi D)) (hrS D (kMi D) 8 0 0) k r mo → ∃ r' mo', f_X11_all_116 n M 0 r (nI mo) (nI k) = some (M, r') ∧ Bz (hrS D (kMi D)) (hrS D (kMi D) 8 0 0) r' mo' := by
    intro n
    induction n with
    | zero => intro k r mo h1 h2; omega
    | succ n ih =>
      intro k r mo h1 h2 hz
      have hmo : mo ≤ 160 := by
        rcases hz with ⟨a1, a2, a3⟩ | ⟨b, a1, a2, a3, a4⟩
        · omega
        · have := cnS_le (H := hrS D (kMi D)) (m := b) (hrS D (kMi D) 8 0 0)
          omega
      show ∃ r' mo', s_X11_all_116 (f_X11_all_116 n) M 0 r (nI mo) (nI k) = _ ∧ _
      unfold s_X11_all_116
      rw [oR, gd_t, rr_17 u.1.1, bd_t, aB_l (i := 1) zR_7 (by decide), gd_t, u.1.mi]
      by_cases hk : k = kMi D
      · rw [if_pos (by rw [hk]; exact nI_le (Nat.le_refl _) (by omega))]
        have hout : ∀ m, k ≤ m → cnS (hrS D (kMi D)) m (hrS D (kMi D) 8 0 0) = 0 := fun m hm => cnS_0 _ (fun i hi z => by
          have := ((iy_hr u.1.2.1 (kMi D) hMi).1 i hi).2.2.1
          omega)
        refine ⟨r, mo, rfl, ?_⟩
        rcases hz with ⟨a1, a2, a3⟩ | ⟨b, a0, a1, a2, a3, a4, a5⟩
        · refine Or.inl ⟨fun m => ?_, a2, a3⟩
          by_cases q : m < k
          · exact a1 m q
          · exact hout m (by omega)
        · refine Or.inr ⟨b, a1, a2, a3, fun m => ?_, a5⟩
          by_cases q : m < k
          · exact a4 m q
          · rw [hout m (by omega)]; omega
      rw [if_neg (nI_ge (by omega) (by omega)), all133 u (by omega) (by omega)]
      by_cases q : mo < cnS (hrS D (kMi D)) k (hrS D (kMi D) 8 0 0)
      · rw [if_pos q]
        have hmo' : ∀ m, m < k → cnS (hrS D (kMi D)) m (hrS D (kMi D) 8 0 0) ≤ mo := by
          rcases hz with ⟨a1, a2, a3⟩ | ⟨b, a0, a1, a2, a3, a4, a5⟩
          · intro m hm; rw [a1 m hm]; omega
          · exact a4
        refine ih (k + 1) _ _ (by omega) (by omega) (Or.inr ⟨k, by omega, rfl, rfl, by omega, fun m hm => ?_, fun m hm => ?_⟩)
        · by_cases c : m = k
          · rw [c]; omega
          · have := hmo' m (by omega); omega
        · have := hmo' m hm; omega
      · rw [if_neg q]
        refine ih (k + 1) _ _ (by omega) (by omega) ?_
        rcases hz with ⟨a1, a2, a3⟩ | ⟨b, a0, a1, a2, a3, a4, a5⟩
        · refine Or.inl ⟨fun m hm => ?_, a2, a3⟩
          by_cases c : m = k
          · rw [c]; omega
          · exact a1 m (by omega)
        · refine Or.inr ⟨b, by omega, a1, a2, a3, fun m hm => ?_, a5⟩
          by_cases c : m = k
          · rw [c]; omega
          · exact a4 m (by omega)
  exact key FU 0 (-1) 0 (by omega) (by unfold FU; omega) (Or.inl ⟨fun m hm => by omega, rfl, rfl⟩)
end RA
theorem eq_all {M1 M2 : Mem} (h : Rel M1 M2) (b : Int32) : Same (f_X10_all M1 0 b) (f_X11_all M2 0 b) := by
  obtain ⟨p, d, D, h, hk⟩ := h
  have h' := h.r0
  have hb := h.ba
  unfold f_X10_all f_X11_all
  rw [oC_0, gd_t, h.g1, bd_t, h.oP, gd_t, oR, gd_t, nx_t, gT1 h, bd_t, gT2 h', bd_t]
  rcases Nat.eq_zero_or_pos (kLn D) with hl | hl
  · rw [if_neg (show ¬ 0 < kLn D by omega), if_pos rfl, if_pos rfl]
    exact same_no h' hk _
  rw [if_pos hl, if_neg (show ¬ (1 : Int32) = 0 by decide), if_neg (show ¬ (1 : Int32) = 0 by decide), in_c 5 (by decide) (by decide), bd_t]
  rcases ix_or b 5 (by decide) with z | ⟨j, hj, rfl⟩
  · rw [if_neg (show ¬ b = 0 from ne_out z (k := 0) (by decide) (by decide)), if_neg (show ¬ b = 1 from ne_out z (k := 1) (by decide) (by decide)), if_neg (show ¬ b = 2 from ne_out z (k := 2) (by decide) (by decide)), if_neg (show ¬ b = 3 from ne_out z (k := 3) (by decide) (by decide)), if_neg (show ¬ b = 4 from ne_out z (k := 4) (by decide) (by decide)), if_neg z, if_pos rfl]
    exact same_no h' hk _
  rw [if_pos (ix_in hj (by decide)), if_neg (show ¬ (1 : Int32) = 0 by decide)]
  obtain ⟨M1', M2', t1, u1, h2, t3, u3, -⟩ := bothH h' hk (told_p h hl).1
  have e := eh_of h2 t3 (told_p h hl).1
  rw [t1, u1]
  rcases j5 hj with rfl | rfl | rfl | rfl | rfl
  · rw [if_pos (show nI 0 = 0 from rfl), bd_t, bd_t, if_neg (show ¬ (2 : Int32) ≤ nI 0 by decide), if_pos (show nI 0 = 0 from rfl)]
    dsimp only
    rw [oC_84, gd_t, e.g4, u3.2.1.1.1]
    exact same_at h2 t3 _
  · rw [if_neg (show ¬ nI 1 = 0 by decide), if_pos (show nI 1 = 1 from rfl), bd_t, bd_t, if_neg (show ¬ (2 : Int32) ≤ nI 1 by decide), if_neg (show ¬ nI 1 = 0 by decide)]
    dsimp only
    rw [oC_84, gd_t, paidInAll_eq e, bd_t, u3.2.1.1.2]
    exact same_at h2 t3 _
  · rw [if_neg (show ¬ nI 2 = 0 by decide), if_neg (show ¬ nI 2 = 1 by decide), if_pos (show nI 2 = 2 from rfl), bd_t, bd_t, if_pos (show (2 : Int32) ≤ nI 2 by decide), all56_2 u3]
    dsimp only
    rw [oC_84, gd_t, lackInAll_eq e, bd_t]
    exact same_at h2 t3 _
  · rw [if_neg (show ¬ nI 3 = 0 by decide), if_neg (show ¬ nI 3 = 1 by decide), if_neg (show ¬ nI 3 = 2 by decide), if_pos (show nI 3 = 3 from rfl), bd_t, bd_t, if_pos (show (2 : Int32) ≤ nI 3 by decide), all56_n u3 (by decide), if_neg (show ¬ (4 : Int32) ≤ nI 3 by decide)]
    dsimp only
    rw [oC_84, gd_t, buyersDone_eq e, bd_t]
    exact same_at h2 t3 _
  · obtain ⟨r1, o1, q1, z1⟩ := busiest_eq e
    obtain ⟨r2, o2, q2, z2⟩ := all116 u3
    rw [if_neg (show ¬ nI 4 = 0 by decide), if_neg (show ¬ nI 4 = 1 by decide), if_neg (show ¬ nI 4 = 2 by decide), if_neg (show ¬ nI 4 = 3 by decide), if_pos (show nI 4 = 4 from rfl), bd_t, bd_t, if_pos (show (2 : Int32) ≤ nI 4 by decide), all56_n u3 (by decide), if_pos (show (4 : Int32) ≤ nI 4 by decide), q2]
    dsimp only
    rw [oC_84, gd_t, q1, bd_t, z1.uniq z2]
    exact same_at h2 t3 _
