/-! STRING's OWN MEMBERS over the reader's texts -/
section TX
variable {X : Cx} {cc : ByteArray} {own : String} {fr lc : Nat} {sh : Shp} {n : Nat} {M : Mem} {pc pc' : Nat} {lo : List (Option Value)}
theorem narB0 : narrow .byte (.int 0) = .int 0 := rfl
theorem r_b0ret (hX : OkX X cc own fr lc) {res : Mem × Int32} (hR : RetI X sh n .byte res) (hd : Dc cc pc .ireturn 1 pc') (hf : some (M, (0 : Int32)) = some res) : GoN X sh n 0 0 M pc lo [.int 0] := by
  cases hf
  obtain ⟨hQ, hr, hlk, h0⟩ := hR
  intro H locs ls h1 h2 h3 h4
  rw [hQ]
  rw [h0] at h2
  exact W.zret hX.1 hX.2.1 hr narB0 (fun t ht hW => ⟨⟨0, (), rfl, rfl, by subst ht; exact h1⟩, h2.F ht⟩) h2.2.2 hd.1 hlk
theorem r_cret (hX : OkX X cc own fr lc) {res : Mem × Int32} (hR : RetI X sh n .char res) {v : Int32} (hv : narrow .char (.int v) = .int v) (hd : Dc cc pc .ireturn 1 pc') (hf : some (M, v) = some res) : GoN X sh n 0 0 M pc lo [.int v] := by
  cases hf
  obtain ⟨hQ, hr, hlk, h0⟩ := hR
  intro H locs ls h1 h2 h3 h4
  rw [hQ]
  rw [h0] at h2
  exact W.zret hX.1 hX.2.1 hr hv (fun t ht hW => ⟨⟨v, (), rfl, rfl, by subst ht; exact h1⟩, h2.F ht⟩) h2.2.2 hd.1 hlk
end TX
theorem nar_ch (v : Int32) : narrow .char (.int ((v.toUInt32 % 65536).toInt32)) = .int ((v.toUInt32 % 65536).toInt32) := by
  have e : narrow .char (.int ((v.toUInt32 % 65536).toInt32)) = .int ((((v.toUInt32 % 65536).toInt32).toUInt32 % 65536).toInt32) := rfl
  rw [e, show ((v.toUInt32 % 65536).toInt32).toUInt32 = v.toUInt32 % 65536 from rfl]
  congr 2
  apply UInt32.toNat_inj.mp
  simp
theorem t_X23_coder {l : Launch} {M : Mem} {i : Nat} (hi : i < SBYT.length) : Ci l yX23_coder cX23_coder 1 (some .byte) 0 0 shC nC (fun K _ => [.ref (K (1000 + i))]) M (M, 0) := by
  refine met_i (own := RX23) (lo := fun K _ => [some (.ref (K (1000 + i)))]) (by decide +kernel) rfl shC_ok (fun _ _ => rfl) (fun _ _ => rfl) (fun _ _ => Nat.le_of_ble_eq_true rfl) (fun X hX hn hlx hR => ?_)
  refine r_getsC hX e_X23_coder_0 wk_555 ?_
  refine r_if_eq hX e_X23_coder_3 (fun hc => absurd hc (by decide)) (fun hc => ?_)
  refine r_aload_n (i := 0) hX e_X23_coder_6 rfl rfl ?_
  refine r_sCod hX hi e_X23_coder_7 wk_1741 ?_
  refine r_goto hX e_X23_coder_10 ?_
  exact r_b0ret hX hR e_X23_coder_14 rfl
theorem t_X23_isLatin1 {l : Launch} {M : Mem} {i : Nat} (hi : i < SBYT.length) : Ci l yX23_isLatin1 cX23_isLatin1 1 (some .boolean) 0 0 shC nC (fun K _ => [.ref (K (1000 + i))]) M (M, 1) := by
  refine met_i (own := RX23) (lo := fun K _ => [some (.ref (K (1000 + i)))]) (by decide +kernel) rfl shC_ok (fun _ _ => rfl) (fun _ _ => rfl) (fun _ _ => Nat.le_of_ble_eq_true rfl) (fun X hX hn hlx hR => ?_)
  refine r_getsC hX e_X23_isLatin1_0 wk_555 ?_
  refine r_if_eq hX e_X23_isLatin1_3 (fun hc => absurd hc (by decide)) (fun hc => ?_)
  refine r_aload_n (i := 0) hX e_X23_isLatin1_6 rfl rfl ?_
  refine r_sCod hX hi e_X23_isLatin1_7 wk_1741 ?_
  refine r_if_ne hX e_X23_isLatin1_10 (fun hc => absurd rfl hc) (fun hc => ?_)
  refine r_iconst hX e_X23_isLatin1_13 ic_1 ?_
  refine r_goto hX e_X23_isLatin1_14 ?_
  exact r_zret hX hR rfl e_X23_isLatin1_18 rfl
theorem sh0 (x : Int32) : x >>> ((0 : Int32) &&& 31) = x := by
  have : ((0 : Int32) &&& 31) = 0 := by decide
  rw [this]
  simp
theorem t_X23_length {l : Launch} {M : Mem} {i : Nat} (hi : i < SBYT.length) : Ci l yX23_length cX23_length 1 (some .int) 1 20 shC nC (fun K B => .ref (K (1000 + i)) :: (fun _ _ => []) K B) M (M, sLen i) := by
  refine met_i (own := RX23) (lo := fun K _ => [some (.ref (K (1000 + i)))]) (by decide +kernel) rfl shC_ok (fun _ _ => rfl) (fun _ _ => rfl) (fun _ _ => Nat.le_of_ble_eq_true rfl) (fun X hX hn hlx hR => ?_)
  refine r_aload_n (i := 0) hX e_X23_length_0 rfl rfl ?_
  refine r_sVal hX hi e_X23_length_1 wk_1740 ?_
  refine r_sLen hX hi e_X23_length_4 ?_
  refine r_aload_n (i := 0) hX e_X23_length_5 rfl rfl ?_
  refine r_cti (As := fun _ _ => []) hX hn hi (t_X23_coder hi) e_X23_length_6 cw_X23_coder cv_X23_coder lk_23_335 ⟨Nat.le_of_ble_eq_true rfl, Nat.le_of_ble_eq_true rfl⟩ rfl rfl rfl (Nat.le_of_ble_eq_true rfl) ⟨Nat.zero_le _, Nat.zero_le _⟩ ?_
  refine r_ishr hX e_X23_length_9 ?_
  rw [sh0]
  exact r_iret hX hR e_X23_length_10 rfl
theorem inb_n {j : Int32} {n : Nat} (hn : n < 2 ^ 31) (h : inb j n = true) : ¬ j < 0 ∧ j < Int32.ofNat n := by
  simp only [inb, Bool.and_eq_true, Bool.not_eq_true', decide_eq_false_iff_not, decide_eq_true_eq] at h
  refine ⟨h.1, ?_⟩
  have h0 : (0 : Int) ≤ j.toInt := by
    have := Int32.not_lt.mp h.1
    simpa using Int32.le_iff_toInt_le.mp this
  have h2 : j.toInt.toNat < n := h.2
  rw [Int32.lt_iff_toInt_lt, Int32.toInt_ofNat_of_lt hn]
  omega
theorem t_X25_checkIndex {l : Launch} {M : Mem} {j m : Int32} {v : Value} (hv : v = .null ∨ ∃ t, v = .ref t) (h1 : ¬ j < 0) (h2 : j < m) : Ci l yX25_checkIndex cX25_checkIndex 3 (some .int) 0 0 shC nC (fun _ _ => [.int j, .int m, v]) M (M, j) := by
  have hc : v.category = 1 := by rcases hv with h | ⟨t, h⟩ <;> subst h <;> rfl
  refine met_i (own := RX25) (lo := fun _ _ => [some (.int j), some (.int m), some v]) (by decide +kernel) rfl shC_ok (fun _ _ => rfl) (fun _ _ => rfl) (fun _ _ => ?_) (fun X hX hn hlx hR => ?_)
  · rcases hv with h | ⟨t, h⟩ <;> subst h <;> exact Nat.le_of_ble_eq_true rfl
  refine r_iload_n (i := 0) hX e_X25_checkIndex_0 rfl rfl ?_
  refine r_if_lt hX e_X25_checkIndex_1 (fun hc => absurd hc h1) (fun hc => ?_)
  refine r_iload_n (i := 0) hX e_X25_checkIndex_4 rfl rfl ?_
  refine r_iload_n (i := 1) hX e_X25_checkIndex_5 rfl rfl ?_
  refine r_icmp_lt hX e_X25_checkIndex_6 (fun hc => ?_) (fun hc => absurd h2 hc)
  refine r_iload_n (i := 0) hX e_X25_checkIndex_16 rfl rfl ?_
  exact r_iret hX hR e_X25_checkIndex_17 rfl
theorem t_X23_checkIndex {l : Launch} {M : Mem} {j m : Int32} (h1 : ¬ j < 0) (h2 : j < m) : Cv l yX23_checkIndex cX23_checkIndex 2 none 1 22 shC nC (fun _ _ => [.int j, .int m]) M M := by
  refine met_v (own := RX23) (lo := fun _ _ => [some (.int j), some (.int m)]) (by decide +kernel) rfl shC_ok (fun _ _ => rfl) (fun _ _ => rfl) (fun _ _ => Nat.le_of_ble_eq_true rfl) (fun X hX hn hlx hR => ?_)
  refine r_iload_n (i := 0) hX e_X23_checkIndex_0 rfl rfl ?_
  refine r_iload_n (i := 1) hX e_X23_checkIndex_1 rfl rfl ?_
  refine r_getsF hX e_X23_checkIndex_2 wk_571 (fun v hv => ?_)
  refine r_csi (As := fun _ _ => [.int j, .int m, v]) hX hn (t_X25_checkIndex hv h1 h2) e_X23_checkIndex_5 cw_X25_checkIndex cv_X25_checkIndex lk_23_1059 ⟨Nat.le_of_ble_eq_true rfl, Nat.le_of_ble_eq_true rfl⟩ rfl rfl (Nat.le_of_ble_eq_true rfl) ⟨Nat.zero_le _, Nat.zero_le _⟩ ?_
  refine r_pop hX e_X23_checkIndex_8 rfl ?_
  exact r_ret hX hR e_X23_checkIndex_9 rfl
theorem sb_small : ∀ i, i < SBYT.length → (SBYT.getD i []).length < 2 ^ 31 := by decide +kernel
theorem t_X24_charAt {l : Launch} {M : Mem} {i : Nat} {j : Int32} (hi : i < SBYT.length) (hj : inb j (SBYT.getD i []).length = true) : Ci l yX24_charAt cX24_charAt 2 (some .char) 2 43 shC nC (fun K _ => [.ref (K (2000 + i)), .int j]) M (M, sChr i j) := by
  obtain ⟨h1, h2⟩ := inb_n (sb_small i hi) hj
  refine met_i (own := RX24) (lo := fun K _ => [some (.ref (K (2000 + i))), some (.int j)]) (by decide +kernel) rfl shC_ok (fun _ _ => rfl) (fun _ _ => rfl) (fun _ _ => Nat.le_of_ble_eq_true rfl) (fun X hX hn hlx hR => ?_)
  refine r_iload_n (i := 1) hX e_X24_charAt_0 rfl rfl ?_
  refine r_aload_n (i := 0) hX e_X24_charAt_1 rfl rfl ?_
  refine r_sLen hX hi e_X24_charAt_2 ?_
  refine r_csv (As := fun _ _ => [.int j, .int (Int32.ofNat (SBYT.getD i []).length)]) hX hn (t_X23_checkIndex h1 h2) e_X24_charAt_3 cw_X23_checkIndex cv_X23_checkIndex lk_24_9 ⟨Nat.le_of_ble_eq_true rfl, Nat.le_of_ble_eq_true rfl⟩ rfl rfl (Nat.le_of_ble_eq_true rfl) ⟨Nat.zero_le _, Nat.zero_le _⟩ ?_
  refine r_aload_n (i := 0) hX e_X24_charAt_6 rfl rfl ?_
  refine r_iload_n (i := 1) hX e_X24_charAt_7 rfl rfl ?_
  refine r_sAt hX hi hj e_X24_charAt_8 ?_
  refine r_sipush hX e_X24_charAt_9 (v := 255) (by decide +kernel) ?_
  refine r_iand hX e_X24_charAt_12 ?_
  refine r_i2c hX e_X24_charAt_13 ?_
  exact r_cret hX hR (nar_ch _) e_X24_charAt_14 rfl
theorem t_X23_charAt {l : Launch} {M : Mem} {i : Nat} {j : Int32} (hi : i < SBYT.length) (hj : inb j (SBYT.getD i []).length = true) : Ci l yX23_charAt cX23_charAt 2 (some .char) 3 64 shC nC (fun K B => .ref (K (1000 + i)) :: (fun _ _ => [.int j]) K B) M (M, sChr i j) := by
  refine met_i (own := RX23) (lo := fun K _ => [some (.ref (K (1000 + i))), some (.int j)]) (by decide +kernel) rfl shC_ok (fun _ _ => rfl) (fun _ _ => rfl) (fun _ _ => Nat.le_of_ble_eq_true rfl) (fun X hX hn hlx hR => ?_)
  refine r_aload_n (i := 0) hX e_X23_charAt_0 rfl rfl ?_
  refine r_cti (As := fun _ _ => []) hX hn hi (t_X23_isLatin1 hi) e_X23_charAt_1 cw_X23_isLatin1 cv_X23_isLatin1 lk_23_492 ⟨Nat.le_of_ble_eq_true rfl, Nat.le_of_ble_eq_true rfl⟩ rfl rfl rfl (Nat.le_of_ble_eq_true rfl) ⟨Nat.zero_le _, Nat.zero_le _⟩ ?_
  refine r_if_eq hX e_X23_charAt_4 (fun hc => absurd hc (show ¬ (1 : Int32) = 0 by decide)) (fun hc => ?_)
  refine r_aload_n (i := 0) hX e_X23_charAt_7 rfl rfl ?_
  refine r_sVal hX hi e_X23_charAt_8 wk_1740 ?_
  refine r_iload_n (i := 1) hX e_X23_charAt_11 rfl rfl ?_
  have hM := fun D cA B => t_X24_charAt (l := X.l) (M := M) hi hj D cA B
  refine r_csi (As := fun K _ => [.ref (K (2000 + i)), .int j]) hX hn (t_X24_charAt hi hj) e_X23_charAt_12 cw_X24_charAt cv_X24_charAt lk_23_495 ⟨Nat.le_of_ble_eq_true rfl, Nat.le_of_ble_eq_true rfl⟩ rfl rfl (Nat.le_of_ble_eq_true rfl) ⟨Nat.zero_le _, Nat.zero_le _⟩ ?_
  exact r_cret hX hR (nar_ch _) e_X23_charAt_15 rfl
