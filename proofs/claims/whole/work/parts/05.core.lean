/-! CORE: a memory of three functions; a region of cells at one base; a frame with locals as a list; one row an instruction -/
abbrev Mem : Type := (Nat → Nat → Int32) × (Nat → Nat → Int64) × (Nat → Nat → Option Nat)
def gI (M : Mem) (a k : Nat) : Int32 := M.1 a k
def gL (M : Mem) (a k : Nat) : Int64 := M.2.1 a k
def gR (M : Mem) (a k : Nat) : Option Nat := M.2.2 a k
def sI (M : Mem) (a k : Nat) (v : Int32) : Mem := (fun b j => if b = a ∧ j = k then v else M.1 b j, M.2)
def sL (M : Mem) (a k : Nat) (v : Int64) : Mem := (M.1, fun b j => if b = a ∧ j = k then v else M.2.1 b j, M.2.2)
def sR (M : Mem) (a k : Nat) (v : Option Nat) : Mem := (M.1, M.2.1, fun b j => if b = a ∧ j = k then v else M.2.2 b j)
theorem gI_sI (M : Mem) (a k : Nat) (v : Int32) (b j : Nat) : gI (sI M a k v) b j = if b = a ∧ j = k then v else gI M b j := rfl
theorem gL_sL (M : Mem) (a k : Nat) (v : Int64) (b j : Nat) : gL (sL M a k v) b j = if b = a ∧ j = k then v else gL M b j := rfl
theorem gR_sR (M : Mem) (a k : Nat) (v : Option Nat) (b j : Nat) : gR (sR M a k v) b j = if b = a ∧ j = k then v else gR M b j := rfl
theorem gI_sL (M : Mem) (a k : Nat) (v : Int64) (b j : Nat) : gI (sL M a k v) b j = gI M b j := rfl
theorem gI_sR (M : Mem) (a k : Nat) (v : Option Nat) (b j : Nat) : gI (sR M a k v) b j = gI M b j := rfl
theorem gL_sI (M : Mem) (a k : Nat) (v : Int32) (b j : Nat) : gL (sI M a k v) b j = gL M b j := rfl
theorem gL_sR (M : Mem) (a k : Nat) (v : Option Nat) (b j : Nat) : gL (sR M a k v) b j = gL M b j := rfl
theorem gR_sI (M : Mem) (a k : Nat) (v : Int32) (b j : Nat) : gR (sI M a k v) b j = gR M b j := rfl
theorem gR_sL (M : Mem) (a k : Nat) (v : Int64) (b j : Nat) : gR (sL M a k v) b j = gR M b j := rfl
/-- a cell's kind (a class by its place, an array by 100 and its type's place; 9999: none) and its length -/
abbrev Shp : Type := Nat → Nat × Nat
def fsV (B : Nat) (M : Mem) (q k : Nat) : Nat → Value
  | 0 => .int (gI M q k)
  | 1 => .long (gL M q k)
  | _ + 2 => va_rf ((gR M q k).map (B + ·))
def fsOf (B : Nat) (M : Mem) (q : Nat) (l : List Nat) : List Value := l.mapIdx (fun k t => fsV B M q k t)
def arOf (B : Nat) (M : Mem) (q : Nat) : Nat → ((Nat → Int32) ⊕ (Nat → Int64) ⊕ (Nat → UInt32) ⊕ (Nat → UInt64) ⊕ (Nat → Option Nat))
  | 0 => .inl (fun j => gI M q j)
  | 1 => .inr (.inl (fun j => gL M q j))
  | _ + 2 => .inr (.inr (.inr (.inr (fun j => (gR M q j).map (B + ·)))))
def cellE (cA : Nat → ClassId) (B : Nat) (sh : Shp) (M : Mem) (q : Nat) : va_E :=
  if (sh q).1 < 100 then .inr ((sh q).1, fsOf B M q (fk (sh q).1)) else .inl (cA ((sh q).1 - 100), (sh q).2, arOf B M q (ak ((sh q).1 - 100)))
def wsOf (cA : Nat → ClassId) (B : Nat) (sh : Shp) (n : Nat) (M : Mem) : va_W := (List.range n).map (fun q => (B + q, cellE cA B sh M q))
theorem ws_get {cA : Nat → ClassId} {B : Nat} {sh : Shp} {n : Nat} {M : Mem} {q : Nat} (h : q < n) : (wsOf cA B sh n M)[q]? = some (B + q, cellE cA B sh M q) := by
  simp [wsOf, h]
theorem ws_len {cA : Nat → ClassId} {B : Nat} {sh : Shp} {n : Nat} {M : Mem} : (wsOf cA B sh n M).length = n := by simp [wsOf]
theorem ws_inv {cA : Nat → ClassId} {B : Nat} {sh : Shp} {n : Nat} {M : Mem} {k : Nat} {q : Nat × va_E} (h : (wsOf cA B sh n M)[k]? = some q) : k < n ∧ q = (B + k, cellE cA B sh M k) := by
  have hk : k < n := by have := (List.getElem?_eq_some_iff.mp h).1; rwa [ws_len] at this
  rw [ws_get hk] at h
  exact ⟨hk, (Option.some.inj h).symm⟩
theorem ws_D {A : Nat → Prop} {cA : Nat → ClassId} {B : Nat} {sh : Shp} {n : Nat} {M : Mem} (hA : ∀ q, q < n → A (B + q)) : va_D A (wsOf cA B sh n M) := by
  refine ⟨fun i j p q hi hj hpq => ?_, fun k q hk => ?_⟩
  · obtain ⟨-, rfl⟩ := ws_inv hi
    obtain ⟨-, rfl⟩ := ws_inv hj
    have : B + i = B + j := hpq
    omega
  · obtain ⟨h1, rfl⟩ := ws_inv hk
    exact hA k h1
theorem cellE_ne {cA : Nat → ClassId} {B : Nat} {sh : Shp} {M M' : Mem} {q : Nat} (h1 : ∀ k, gI M' q k = gI M q k) (h2 : ∀ k, gL M' q k = gL M q k) (h3 : ∀ k, gR M' q k = gR M q k) : cellE cA B sh M' q = cellE cA B sh M q := by
  have e : ∀ k t, fsV B M' q k t = fsV B M q k t := by
    intro k t
    match t with
    | 0 => simp [fsV, h1]
    | 1 => simp [fsV, h2]
    | _ + 2 => simp [fsV, h3]
  have e2 : ∀ l, fsOf B M' q l = fsOf B M q l := by
    intro l
    unfold fsOf
    simp only [e]
  have e3 : ∀ t, arOf B M' q t = arOf B M q t := by
    intro t
    match t with
    | 0 => simp [arOf, h1]
    | 1 => simp [arOf, h2]
    | _ + 2 => simp [arOf, h3]
  unfold cellE
  rw [e2, e3]
theorem ws_set {cA : Nat → ClassId} {B : Nat} {sh : Shp} {n : Nat} {M M' : Mem} {q : Nat} {e : va_E} (he : e = cellE cA B sh M' q) (ho : ∀ b, b ≠ q → cellE cA B sh M' b = cellE cA B sh M b) : (wsOf cA B sh n M).set q (B + q, e) = wsOf cA B sh n M' := by
  subst he
  apply List.ext_getElem?
  intro j
  rw [List.getElem?_set]
  by_cases hj : q = j
  · subst hj
    rw [if_pos rfl, ws_len]
    by_cases hn : q < n
    · rw [if_pos hn, ws_get hn]
    · rw [if_neg hn]
      symm
      rw [List.getElem?_eq_none_iff, ws_len]
      omega
  · rw [if_neg hj]
    by_cases hn : j < n
    · rw [ws_get hn, ws_get hn, ho j (fun h => hj h.symm)]
    · rw [List.getElem?_eq_none_iff.mpr (by rw [ws_len]; omega), List.getElem?_eq_none_iff.mpr (by rw [ws_len]; omega)]
theorem sI_o {cA : Nat → ClassId} {B : Nat} {sh : Shp} {M : Mem} {q k : Nat} {v : Int32} (b : Nat) (h : b ≠ q) : cellE cA B sh (sI M q k v) b = cellE cA B sh M b :=
  cellE_ne (fun j => by rw [gI_sI, if_neg (fun z => h z.1)]) (fun _ => rfl) (fun _ => rfl)
theorem sL_o {cA : Nat → ClassId} {B : Nat} {sh : Shp} {M : Mem} {q k : Nat} {v : Int64} (b : Nat) (h : b ≠ q) : cellE cA B sh (sL M q k v) b = cellE cA B sh M b :=
  cellE_ne (fun _ => rfl) (fun j => by rw [gL_sL, if_neg (fun z => h z.1)]) (fun _ => rfl)
theorem sR_o {cA : Nat → ClassId} {B : Nat} {sh : Shp} {M : Mem} {q k : Nat} {v : Option Nat} (b : Nat) (h : b ≠ q) : cellE cA B sh (sR M q k v) b = cellE cA B sh M b :=
  cellE_ne (fun _ => rfl) (fun _ => rfl) (fun j => by rw [gR_sR, if_neg (fun z => h z.1)])
theorem fs_get {B : Nat} {M : Mem} {q k t : Nat} {l : List Nat} (h : l[k]? = some t) : (fsOf B M q l)[k]? = some (fsV B M q k t) := by
  unfold fsOf
  rw [List.getElem?_mapIdx, h]
  rfl
theorem fs_set {B : Nat} {M M' : Mem} {q k t : Nat} {l : List Nat} {v : Value} (h : l[k]? = some t) (hv : v = fsV B M' q k t) (ho : ∀ j t', j ≠ k → fsV B M' q j t' = fsV B M q j t') : (fsOf B M q l).set k v = fsOf B M' q l := by
  subst hv
  apply List.ext_getElem?
  intro j
  have hk := (List.getElem?_eq_some_iff.mp h).1
  rw [List.getElem?_set]
  by_cases hj : k = j
  · subst hj
    rw [if_pos rfl, if_pos (by simp [fsOf]; exact hk), fs_get h]
  · rw [if_neg hj]
    unfold fsOf
    rw [List.getElem?_mapIdx, List.getElem?_mapIdx]
    cases hl : l[j]? with
    | none => rfl
    | some t' =>
      exact congrArg some (ho j t' (fun z => hj z.symm)).symm
theorem fs_len {B : Nat} {M : Mem} {q : Nat} {l : List Nat} : (fsOf B M q l).length = l.length := by simp [fsOf]
theorem fsV_sI {B : Nat} {M : Mem} {q k : Nat} {v : Int32} (j t : Nat) (h : j ≠ k) : fsV B (sI M q k v) q j t = fsV B M q j t := by
  match t with
  | 0 => simp [fsV, gI_sI, h]
  | 1 => rfl
  | _ + 2 => rfl
theorem fsV_sL {B : Nat} {M : Mem} {q k : Nat} {v : Int64} (j t : Nat) (h : j ≠ k) : fsV B (sL M q k v) q j t = fsV B M q j t := by
  match t with
  | 0 => rfl
  | 1 => simp [fsV, gL_sL, h]
  | _ + 2 => rfl
theorem fsV_sR {B : Nat} {M : Mem} {q k : Nat} {v : Option Nat} (j t : Nat) (h : j ≠ k) : fsV B (sR M q k v) q j t = fsV B M q j t := by
  match t with
  | 0 => rfl
  | 1 => rfl
  | _ + 2 => simp [fsV, gR_sR, h]
theorem ce_obj {cA : Nat → ClassId} {B : Nat} {sh : Shp} {M : Mem} {q ci : Nat} (h : (sh q).1 = ci) (hc : ci < 100) : cellE cA B sh M q = .inr (ci, fsOf B M q (fk ci)) := by
  subst h
  exact if_pos hc
theorem ce_arr {cA : Nat → ClassId} {B : Nat} {sh : Shp} {M : Mem} {q t : Nat} (h : (sh q).1 = 100 + t) : cellE cA B sh M q = .inl (cA t, (sh q).2, arOf B M q (ak t)) := by
  unfold cellE
  rw [if_neg (by omega), h, Nat.add_sub_cancel_left]
/-- the String constants that the class reads, and the statics behind String's members; K (1000 + i): the i-th text, K (2000 + i): its bytes -/
def Str1 (K : Nat → Nat) (A : Nat → Prop) (U : State) (H : Heap) (i : Nat) : Prop := va_O "java/lang/String" (K (1000 + i)) A U H ∧ va_OF "java/lang/String" "coder" "B" (.int 0) (K (1000 + i)) A U H ∧ va_OF "java/lang/String" "value" "[B" (.ref (K (2000 + i))) (K (1000 + i)) A U H ∧ va_T .byte (K (2000 + i)) (SBYT.getD i []).length (fun j => .int ((SBYT.getD i []).getD j 0)) A U H
def Strs (K : Nat → Nat) (A : Nat → Prop) (U : State) (H : Heap) : Prop := (∀ i, i < SBYT.length → Str1 K A U H i) ∧ (∀ (i : Nat) (q : Nat × String), SREF[i]? = some q → vk_R RX6 q.1 q.2 (K (1000 + i)) U) ∧ va_Z "java/lang/String" "COMPACT_STRINGS" "Z" (.int 1) A U H ∧ va_Zq "jdk/internal/util/Preconditions" "SIOOBE_FORMATTER" "Ljava/util/function/BiFunction;" A U H
theorem Strs.kept {K : Nat → Nat} {A : Nat → Prop} {U : State} {H H1 : Heap} (h : Strs K A U H) (hq : ∀ a : Nat, a < H.size → ¬ A a → H1[a]? = H[a]?) : Strs K A U H1 :=
  ⟨fun i hi => ⟨(h.1 i hi).1.kept hq, (h.1 i hi).2.1.kept hq, (h.1 i hi).2.2.1.kept hq, (h.1 i hi).2.2.2.kept hq⟩, h.2.1, h.2.2.1.kept hq, h.2.2.2.kept hq⟩
theorem Strs.narrow {K : Nat → Nat} {A B : Nat → Prop} {U : State} {H : Heap} (h : Strs K A U H) (hAB : ∀ q, B q → A q) : Strs K B U H :=
  ⟨fun i hi => ⟨(h.1 i hi).1.narrow hAB, (h.1 i hi).2.1.narrow hAB, (h.1 i hi).2.2.1.narrow hAB, (h.1 i hi).2.2.2.narrow hAB⟩, h.2.1, h.2.2.1.narrow hAB, h.2.2.2.narrow hAB⟩
theorem Strs.moved0 {K : Nat → Nat} {A : Nat → Prop} {u U : State} {H : Heap} (hvm : u.vm.Alike U.vm) (h : Strs K A u H) (hr : ∀ (i : Nat) (q : Nat × String), SREF[i]? = some q → vk_R RX6 q.1 q.2 (K (1000 + i)) U) : Strs K A U H :=
  ⟨fun i hi => ⟨va_O.moved hvm (h.1 i hi).1, va_OF.moved hvm (h.1 i hi).2.1, va_OF.moved hvm (h.1 i hi).2.2.1, va_T.moved hvm (h.1 i hi).2.2.2⟩, hr, va_Z.moved hvm h.2.2.1, va_Zq.moved hvm h.2.2.2⟩
theorem Strs.warm {K : Nat → Nat} {A : Nat → Prop} {s U : State} {H : Heap} (hW : s.WarmedH U.vm) (h : Strs K A s H) : Strs K A U H := h.moved0 hW.alike (fun i q hq => vk_R.warm hW (h.2.1 i q hq))
theorem Strs.same {K : Nat → Nat} {A : Nat → Prop} {u U : State} {H : Heap} (hv : U.vm = u.vm) (h : Strs K A u H) : Strs K A U H := h.moved0 (by rw [hv]; exact Vm.Alike.refl _) (fun i q hq => vk_R.same hv (h.2.1 i q hq))
-- guards
def oB (sh : Shp) (q ci : Nat) : Bool := (sh q).1 == ci
def inb (i : Int32) (n : Nat) : Bool := !(decide (i < 0)) && decide (i.toNatClampNeg < n)
def aB (sh : Shp) (q t : Nat) (i : Int32) : Bool := ((sh q).1 == 100 + t) && inb i (sh q).2
theorem inb_s {i : Int32} {n : Nat} (h : inb i n = true) : vp_in i n := by
  simp only [inb, Bool.and_eq_true, Bool.not_eq_true', decide_eq_false_iff_not, decide_eq_true_eq] at h
  intro z
  rcases z with z | z
  · exact h.1 z
  · exact absurd h.2 (Nat.not_lt.mpr z)
theorem aB_s {sh : Shp} {q t : Nat} {i : Int32} (h : aB sh q t i = true) : (sh q).1 = 100 + t ∧ vp_in i (sh q).2 := by
  simp only [aB, Bool.and_eq_true, beq_iff_eq] at h
  exact ⟨h.1, inb_s h.2⟩
theorem oB_s {sh : Shp} {q ci : Nat} (h : oB sh q ci = true) : (sh q).1 = ci := by
  simpa [oB] using h
def gd {β : Type} (b : Bool) (x : Option β) : Option β := match b with
  | true => x
  | false => none
def nx {α β : Type} (x : α) (f : α → Option β) : Option β := f x
def bd {α β : Type} (x : Option α) (f : α → Option β) : Option β := match x with
  | some a => f a
  | none => none
theorem gd_s {β : Type} {b : Bool} {x : Option β} {r : β} (h : gd b x = some r) : b = true ∧ x = some r := by
  cases b with
  | true => exact ⟨rfl, h⟩
  | false => cases h
theorem nx_s {α β : Type} {x : α} {f : α → Option β} {r : β} (h : nx x f = some r) : ∃ y, y = x ∧ f y = some r := ⟨x, rfl, h⟩
theorem bd_s {α β : Type} {x : Option α} {f : α → Option β} {r : β} (h : bd x f = some r) : ∃ y, x = some y ∧ f y = some r := by
  cases x with
  | some a => exact ⟨a, rfl, h⟩
  | none => cases h
theorem ite_t {c : Prop} {_ : Decidable c} {β : Type} {a b : Option β} {r : β} (h : (if c then a else b) = some r) (hc : c) : a = some r := by rwa [if_pos hc] at h
theorem ite_f {c : Prop} {_ : Decidable c} {β : Type} {a b : Option β} {r : β} (h : (if c then a else b) = some r) (hc : ¬ c) : b = some r := by rwa [if_neg hc] at h
def isZ (v : Int32) : Bool := v == 0 || v == 1
theorem isZ_s {v : Int32} (h : isZ v = true) : v = 0 ∨ v = 1 := by
  simpa [isZ] using h
/-- System.arraycopy over ints, over longs -/
def cpI (M : Mem) (s sp d dp n : Nat) : Mem := (fun b j => if b = d ∧ dp ≤ j ∧ j < dp + n then M.1 s (sp + (j - dp)) else M.1 b j, M.2)
def cpL (M : Mem) (s sp d dp n : Nat) : Mem := (M.1, fun b j => if b = d ∧ dp ≤ j ∧ j < dp + n then M.2.1 s (sp + (j - dp)) else M.2.1 b j, M.2.2)
def cB (sh : Shp) (t s : Nat) (sp : Int32) (d : Nat) (dp n : Int32) : Bool := (sh s).1 == 100 + t && (sh d).1 == 100 + t && !(decide (sp < 0)) && !(decide (dp < 0)) && !(decide (n < 0)) && decide (sp.toNatClampNeg + n.toNatClampNeg ≤ (sh s).2) && decide (dp.toNatClampNeg + n.toNatClampNeg ≤ (sh d).2)
-- locals
def lpr : Nat → List (Option Value) → List (Nat × Value)
  | _, [] => []
  | i, none :: l => lpr (i + 1) l
  | i, some v :: l => (i, v) :: lpr (i + 1) l
theorem lpr_mem : ∀ (l : List (Option Value)) (b i : Nat) (v : Value), (i, v) ∈ lpr b l ↔ ∃ k, i = b + k ∧ l[k]? = some (some v)
  | [], b, i, v => by simp [lpr]
  | none :: l, b, i, v => by
    rw [lpr, lpr_mem l (b + 1) i v]
    constructor
    · rintro ⟨k, h1, h2⟩
      exact ⟨k + 1, by omega, by simpa using h2⟩
    · rintro ⟨k, h1, h2⟩
      cases k with
      | zero => simp at h2
      | succ k => exact ⟨k, by omega, by simpa using h2⟩
  | some w :: l, b, i, v => by
    rw [lpr, List.mem_cons, lpr_mem l (b + 1) i v]
    constructor
    · rintro (h | ⟨k, h1, h2⟩)
      · cases h
        exact ⟨0, rfl, rfl⟩
      · exact ⟨k + 1, by omega, by simpa using h2⟩
    · rintro ⟨k, h1, h2⟩
      cases k with
      | zero =>
        simp at h2
        subst h2
        left
        rw [h1]
        rfl
      | succ k => exact Or.inr ⟨k, by omega, by simpa using h2⟩
theorem lpr_at {ls : Array Slot} {n : Nat} {l : List (Option Value)} (h : lv_has ls n (lpr 0 l)) {i : Nat} {v : Value} (hk : l[i]? = some (some v)) : ls[i]? = some (.val v) :=
  h.2.2 (i, v) ((lpr_mem l 0 i v).mpr ⟨i, (Nat.zero_add i).symm, hk⟩)
theorem lpr_sub {ls : Array Slot} {n : Nat} {l l' : List (Option Value)} (h : lv_has ls n (lpr 0 l)) (hs : ∀ (i : Nat) (v : Value), l'[i]? = some (some v) → l[i]? = some (some v)) : lv_has ls n (lpr 0 l') :=
  ⟨h.1, h.2.1, fun q hq => by
    obtain ⟨i, v⟩ := q
    obtain ⟨k, h1, h2⟩ := (lpr_mem l' 0 i v).mp hq
    have : k = i := by omega
    subst this
    exact lpr_at h (hs k v h2)⟩
def sb (l' l : List (Option Value)) : Prop := ∀ (i : Nat) (v : Value), l'[i]? = some (some v) → l[i]? = some (some v)
theorem sb_z (l : List (Option Value)) : sb [] l := fun i v h => by simp at h
theorem sb_n {a : Option Value} {l' l : List (Option Value)} (h : sb l' l) : sb (none :: l') (a :: l) := fun i v hv => by
  cases i with
  | zero => simp at hv
  | succ i => simpa using h i v (by simpa using hv)
theorem sb_s {a : Option Value} {l' l : List (Option Value)} (h : sb l' l) : sb (a :: l') (a :: l) := fun i v hv => by
  cases i with
  | zero => simpa using hv
  | succ i => simpa using h i v (by simpa using hv)
/-- may slot i be written without hurting a long that stands before it? -/
def pvOk (l : List (Option Value)) : Nat → Bool
  | 0 => true
  | i + 1 => match l[i]? with
    | some (some v) => v.category != 2
    | _ => true
theorem st1 {ls : Array Slot} {l : List (Option Value)} {i : Nat} {v : Value} (h : lv_has ls l.length (lpr 0 l)) (hi : i < l.length) (hp : pvOk l i = true) {ls' : Array Slot} (h' : lv_has ls' l.length ((i, v) :: (lpr 0 l).filter (fun q => !(q.1 == i) && !(q.1 + 1 == i && q.2.category == 2)))) : lv_has ls' (l.set i (some v)).length (lpr 0 (l.set i (some v))) := by
  refine ⟨by rw [List.length_set]; exact h'.1, h'.2.1, fun q hq => ?_⟩
  obtain ⟨j, w⟩ := q
  obtain ⟨k, h1, h2⟩ := (lpr_mem _ 0 j w).mp hq
  have : k = j := by omega
  subst this
  apply h'.2.2
  rw [List.getElem?_set] at h2
  by_cases hj : i = k
  · subst hj
    rw [if_pos rfl, if_pos hi] at h2
    cases h2
    exact List.mem_cons_self
  · rw [if_neg hj] at h2
    refine List.mem_cons_of_mem _ (List.mem_filter.mpr ⟨(lpr_mem l 0 k w).mpr ⟨k, by omega, h2⟩, ?_⟩)
    have e1 : (k == i) = false := by simp; exact fun z => hj z.symm
    simp only [e1, Bool.not_false, Bool.true_and, Bool.not_eq_true', Bool.and_eq_false_iff]
    by_cases hk : k + 1 = i
    · right
      subst hk
      simp only [pvOk, h2] at hp
      simpa using hp
    · left
      simpa using hk
theorem st2 {ls : Array Slot} {l : List (Option Value)} {i : Nat} {v : Value} (h : lv_has ls l.length (lpr 0 l)) (hi : i + 1 < l.length) (hp : pvOk l i = true) {ls' : Array Slot} (h' : lv_has ls' l.length ((i, v) :: (lpr 0 l).filter (fun q => !(q.1 == i) && (!(q.1 == i + 1) && !(q.1 + 1 == i && q.2.category == 2))))) : lv_has ls' ((l.set i (some v)).set (i + 1) none).length (lpr 0 ((l.set i (some v)).set (i + 1) none)) := by
  refine ⟨by rw [List.length_set, List.length_set]; exact h'.1, h'.2.1, fun q hq => ?_⟩
  obtain ⟨j, w⟩ := q
  obtain ⟨k, h1, h2⟩ := (lpr_mem _ 0 j w).mp hq
  have : k = j := by omega
  subst this
  apply h'.2.2
  rw [List.getElem?_set] at h2
  by_cases hj : i + 1 = k
  · subst hj
    rw [if_pos rfl, List.length_set, if_pos hi] at h2
    cases h2
  · rw [if_neg hj, List.getElem?_set] at h2
    by_cases hj2 : i = k
    · subst hj2
      rw [if_pos rfl, if_pos (by omega)] at h2
      cases h2
      exact List.mem_cons_self
    · rw [if_neg hj2] at h2
      refine List.mem_cons_of_mem _ (List.mem_filter.mpr ⟨(lpr_mem l 0 k w).mpr ⟨k, by omega, h2⟩, ?_⟩)
      have e1 : (k == i) = false := by simp; exact fun z => hj2 z.symm
      have e2 : (k == i + 1) = false := by simp; exact fun z => hj z.symm
      simp only [e1, e2, Bool.not_false, Bool.true_and, Bool.not_eq_true', Bool.and_eq_false_iff]
      by_cases hk : k + 1 = i
      · right
        subst hk
        simp only [pvOk, h2] at hp
        simpa using hp
      · left
        simpa using hk
/-! ROWS: one instruction each, over GoN -/
def Cx : Type := Program × Launch × Env × Room × State × MethodId × Array Value × List Frame × Method × Code × (State → Prop) × va_G × (Nat → ClassId) × Nat × Heap × (Nat → Prop)
def Cx.p (X : Cx) : Program := X.1
def Cx.l (X : Cx) : Launch := X.2.1
def Cx.e (X : Cx) : Env := X.2.2.1
def Cx.R (X : Cx) : Room := X.2.2.2.1
def Cx.s (X : Cx) : State := X.2.2.2.2.1
def Cx.m (X : Cx) : MethodId := X.2.2.2.2.2.1
def Cx.args (X : Cx) : Array Value := X.2.2.2.2.2.2.1
def Cx.below (X : Cx) : List Frame := X.2.2.2.2.2.2.2.1
def Cx.meth (X : Cx) : Method := X.2.2.2.2.2.2.2.2.1
def Cx.c (X : Cx) : Code := X.2.2.2.2.2.2.2.2.2.1
def Cx.Q (X : Cx) : State → Prop := X.2.2.2.2.2.2.2.2.2.2.1
def Cx.D (X : Cx) : va_G := X.2.2.2.2.2.2.2.2.2.2.2.1
def Cx.cA (X : Cx) : Nat → ClassId := X.2.2.2.2.2.2.2.2.2.2.2.2.1
def Cx.B (X : Cx) : Nat := X.2.2.2.2.2.2.2.2.2.2.2.2.2.1
def Cx.H0 (X : Cx) : Heap := X.2.2.2.2.2.2.2.2.2.2.2.2.2.2.1
def Cx.A (X : Cx) : Nat → Prop := X.2.2.2.2.2.2.2.2.2.2.2.2.2.2.2
def tysOf (cA : Nat → ClassId) : List (ClassId × FieldType) := tyl.mapIdx (fun k ty => (cA k, ty))
theorem tys_get {cA : Nat → ClassId} {t : Nat} {ty : FieldType} (h : tyl[t]? = some ty) : (tysOf cA)[t]? = some (cA t, ty) := by
  unfold tysOf
  rw [List.getElem?_mapIdx, h]
  rfl
/-- what holds of the machine in a method with the code cc of the class own, with fr frames and lc words of locals below it -/
def OkX (X : Cx) (cc : ByteArray) (own : String) (fr lc : Nat) : Prop :=
  X.p.tables.exec = Jvm.exec ∧ X.c.code = cc ∧ X.s.vm.findClass own = some X.m.cls ∧ (∀ w ∈ WALL, w.before X.args X.s = true) ∧ va_K X.D cls (tysOf X.cA) X.s ∧ X.R.frames = fr ∧ X.R.locals = lc ∧ Strs X.cA X.A X.s X.H0 ∧ X.H0 = X.s.heap
def GoN (X : Cx) (sh : Shp) (n kc ks : Nat) (M : Mem) (pc : Nat) (lo : List (Option Value)) (st : List Value) : Prop :=
  ∀ (H : Heap) (locs : List Loc) (ls : Array Slot), va_P X.D cls (wsOf X.cA X.B sh n M) H → va_S X.A X.H0 H locs → lv_has ls lo.length (lpr 0 lo) → X.c.maxLocals = lo.length → W X.p X.l X.e X.R X.s X.m X.args X.below X.meth X.c H locs kc ks X.Q (F0 X.m pc ls st)
/-- the cells that have a kind are there, and may be written -/
def Fit (X : Cx) (sh : Shp) (n : Nat) : Prop := (∀ q, (sh q).1 ≠ 9999 → q < n) ∧ ∀ q, q < n → X.A (X.B + q)
section RW
variable {X : Cx} {cc : ByteArray} {own : String} {fr lc : Nat} {sh : Shp} {n kc ks : Nat} {M : Mem} {pc pc' tgt : Nat} {lo : List (Option Value)} {st : List Value}
theorem GoN.weak {lo' : List (Option Value)} (k : GoN X sh n kc ks M pc lo' st) (hl : lo'.length = lo.length) (hs : sb lo' lo) : GoN X sh n kc ks M pc lo st := fun H locs ls h1 h2 h3 h4 => k H locs ls h1 h2 (by rw [hl]; exact lpr_sub h3 hs) (by rw [hl]; exact h4)
theorem GoN.mem {M' : Mem} (k : GoN X sh n kc ks M' pc lo st) (h : M = M') : GoN X sh n kc ks M pc lo st := h ▸ k

theorem r_iconst (hX : OkX X cc own fr lc) {z : Int} {v : Int32} (hd : Dc cc pc (.iconst z) 1 pc') (hv : Int32.ofInt z = v) (k : GoN X sh n kc ks M pc' lo (.int v :: st)) : GoN X sh n kc ks M pc lo (st) := by
  obtain ⟨hd, rfl⟩ := hd
  exact fun H locs ls h1 h2 h3 h4 => lv_iconst hX.1 hX.2.1 hd hv (k H locs ls h1 h2 h3 h4)
theorem r_bipush (hX : OkX X cc own fr lc) {z : Int} {v : Int32} (hd : Dc cc pc (.bipush z) 2 pc') (hv : (Int8.ofInt z).toInt32 = v) (k : GoN X sh n kc ks M pc' lo (.int v :: st)) : GoN X sh n kc ks M pc lo (st) := by
  obtain ⟨hd, rfl⟩ := hd
  exact fun H locs ls h1 h2 h3 h4 => lv_bipush hX.1 hX.2.1 hd hv (k H locs ls h1 h2 h3 h4)
theorem r_sipush (hX : OkX X cc own fr lc) {z : Int} {v : Int32} (hd : Dc cc pc (.sipush z) 3 pc') (hv : (Int16.ofInt z).toInt32 = v) (k : GoN X sh n kc ks M pc' lo (.int v :: st)) : GoN X sh n kc ks M pc lo (st) := by
  obtain ⟨hd, rfl⟩ := hd
  exact fun H locs ls h1 h2 h3 h4 => lv_sipush hX.1 hX.2.1 hd hv (k H locs ls h1 h2 h3 h4)
theorem r_lconst (hX : OkX X cc own fr lc) {z : Fin 2} {v : Int64} (hd : Dc cc pc (.lconst z) 1 pc') (hv : Int64.ofNat (z : Nat) = v) (k : GoN X sh n kc ks M pc' lo (.long v :: st)) : GoN X sh n kc ks M pc lo (st) := by
  obtain ⟨hd, rfl⟩ := hd
  exact fun H locs ls h1 h2 h3 h4 => lv_lconst hX.1 hX.2.1 hd hv (k H locs ls h1 h2 h3 h4)
theorem r_ldc (hX : OkX X cc own fr lc) {ix : Nat} {v : Int32} (hd : Dc cc pc (.ldc ix) 2 pc') (hw : Cond.constant own ix v ∈ WALL) (k : GoN X sh n kc ks M pc' lo (.int v :: st)) : GoN X sh n kc ks M pc lo (st) := by
  obtain ⟨hd, rfl⟩ := hd
  exact fun H locs ls h1 h2 h3 h4 => lv_ldc hX.1 hX.2.1 hX.2.2.1 (hX.2.2.2.1 _ hw) hd (k H locs ls h1 h2 h3 h4)
theorem r_ldcw (hX : OkX X cc own fr lc) {ix : Nat} {v : Int32} (hd : Dc cc pc (.ldc_w ix) 3 pc') (hw : Cond.constant own ix v ∈ WALL) (k : GoN X sh n kc ks M pc' lo (.int v :: st)) : GoN X sh n kc ks M pc lo (st) := by
  obtain ⟨hd, rfl⟩ := hd
  exact fun H locs ls h1 h2 h3 h4 => lv_ldcw hX.1 hX.2.1 hX.2.2.1 (hX.2.2.2.1 _ hw) hd (k H locs ls h1 h2 h3 h4)
theorem r_ldc2 (hX : OkX X cc own fr lc) {ix : Nat} {v : Int64} (hd : Dc cc pc (.ldc2_w ix) 3 pc') (hw : Cond.constantLong own ix v ∈ WALL) (k : GoN X sh n kc ks M pc' lo (.long v :: st)) : GoN X sh n kc ks M pc lo (st) := by
  obtain ⟨hd, rfl⟩ := hd
  exact fun H locs ls h1 h2 h3 h4 => lv_ldc2 hX.1 hX.2.1 hX.2.2.1 (hX.2.2.2.1 _ hw) hd (k H locs ls h1 h2 h3 h4)
theorem r_iload_n (hX : OkX X cc own fr lc) {j : Fin 4} {i : Nat} {x : Int32} (hd : Dc cc pc (.iload_n j) 1 pc') (hi : (j : Nat) = i) (hl : lo[i]? = some (some (.int x))) (k : GoN X sh n kc ks M pc' lo (.int x :: st)) : GoN X sh n kc ks M pc lo (st) := by
  obtain ⟨hd, rfl⟩ := hd
  exact fun H locs ls h1 h2 h3 h4 => lv_iload_n hX.1 hX.2.1 hd hi (lpr_at h3 hl) (k H locs ls h1 h2 h3 h4)
theorem r_iload (hX : OkX X cc own fr lc) {i : Nat} {x : Int32} (hd : Dc cc pc (.iload i) 2 pc') (hl : lo[i]? = some (some (.int x))) (k : GoN X sh n kc ks M pc' lo (.int x :: st)) : GoN X sh n kc ks M pc lo (st) := by
  obtain ⟨hd, rfl⟩ := hd
  exact fun H locs ls h1 h2 h3 h4 => lv_iload hX.1 hX.2.1 hd (lpr_at h3 hl) (k H locs ls h1 h2 h3 h4)
theorem r_lload_n (hX : OkX X cc own fr lc) {j : Fin 4} {i : Nat} {x : Int64} (hd : Dc cc pc (.lload_n j) 1 pc') (hi : (j : Nat) = i) (hl : lo[i]? = some (some (.long x))) (k : GoN X sh n kc ks M pc' lo (.long x :: st)) : GoN X sh n kc ks M pc lo (st) := by
  obtain ⟨hd, rfl⟩ := hd
  exact fun H locs ls h1 h2 h3 h4 => lv_lload_n hX.1 hX.2.1 hd hi (lpr_at h3 hl) (k H locs ls h1 h2 h3 h4)
theorem r_lload (hX : OkX X cc own fr lc) {i : Nat} {x : Int64} (hd : Dc cc pc (.lload i) 2 pc') (hl : lo[i]? = some (some (.long x))) (k : GoN X sh n kc ks M pc' lo (.long x :: st)) : GoN X sh n kc ks M pc lo (st) := by
  obtain ⟨hd, rfl⟩ := hd
  exact fun H locs ls h1 h2 h3 h4 => lv_lload hX.1 hX.2.1 hd (lpr_at h3 hl) (k H locs ls h1 h2 h3 h4)
theorem r_aload_n (hX : OkX X cc own fr lc) {j : Fin 4} {i : Nat} {x : Nat} (hd : Dc cc pc (.aload_n j) 1 pc') (hi : (j : Nat) = i) (hl : lo[i]? = some (some (.ref x))) (k : GoN X sh n kc ks M pc' lo (.ref x :: st)) : GoN X sh n kc ks M pc lo (st) := by
  obtain ⟨hd, rfl⟩ := hd
  exact fun H locs ls h1 h2 h3 h4 => lv_aload_n hX.1 hX.2.1 hd hi (lpr_at h3 hl) (k H locs ls h1 h2 h3 h4)
theorem r_aload (hX : OkX X cc own fr lc) {i : Nat} {x : Nat} (hd : Dc cc pc (.aload i) 2 pc') (hl : lo[i]? = some (some (.ref x))) (k : GoN X sh n kc ks M pc' lo (.ref x :: st)) : GoN X sh n kc ks M pc lo (st) := by
  obtain ⟨hd, rfl⟩ := hd
  exact fun H locs ls h1 h2 h3 h4 => lv_aload hX.1 hX.2.1 hd (lpr_at h3 hl) (k H locs ls h1 h2 h3 h4)
theorem r_istore_n (hX : OkX X cc own fr lc) {j : Fin 4} {i : Nat} {x : Int32} (hd : Dc cc pc (.istore_n j) 1 pc') (hi : (j : Nat) = i) (hn : i < lo.length) (hp : pvOk lo i = true) (k : GoN X sh n kc ks M pc' (lo.set i (some (.int x))) st) : GoN X sh n kc ks M pc lo (.int x :: st) := by
  obtain ⟨hd, rfl⟩ := hd
  exact fun H locs ls h1 h2 h3 h4 => lv_istore_n hX.1 hX.2.1 hd hi h3 hn rfl (fun ls' h => k H locs ls' h1 h2 (st1 h3 hn hp h) (h4.trans (by simp)))
theorem r_istore (hX : OkX X cc own fr lc) {i : Nat} {x : Int32} (hd : Dc cc pc (.istore i) 2 pc') (hn : i < lo.length) (hp : pvOk lo i = true) (k : GoN X sh n kc ks M pc' (lo.set i (some (.int x))) st) : GoN X sh n kc ks M pc lo (.int x :: st) := by
  obtain ⟨hd, rfl⟩ := hd
  exact fun H locs ls h1 h2 h3 h4 => lv_istore hX.1 hX.2.1 hd h3 hn rfl (fun ls' h => k H locs ls' h1 h2 (st1 h3 hn hp h) (h4.trans (by simp)))
theorem r_lstore_n (hX : OkX X cc own fr lc) {j : Fin 4} {i : Nat} {x : Int64} (hd : Dc cc pc (.lstore_n j) 1 pc') (hi : (j : Nat) = i) (hn : i + 1 < lo.length) (hp : pvOk lo i = true) (k : GoN X sh n kc ks M pc' ((lo.set i (some (.long x))).set (i + 1) none) st) : GoN X sh n kc ks M pc lo (.long x :: st) := by
  obtain ⟨hd, rfl⟩ := hd
  exact fun H locs ls h1 h2 h3 h4 => lv_lstore_n hX.1 hX.2.1 hd hi h3 hn rfl (fun ls' h => k H locs ls' h1 h2 (st2 h3 hn hp h) (h4.trans (by simp)))
theorem r_lstore (hX : OkX X cc own fr lc) {i : Nat} {x : Int64} (hd : Dc cc pc (.lstore i) 2 pc') (hn : i + 1 < lo.length) (hp : pvOk lo i = true) (k : GoN X sh n kc ks M pc' ((lo.set i (some (.long x))).set (i + 1) none) st) : GoN X sh n kc ks M pc lo (.long x :: st) := by
  obtain ⟨hd, rfl⟩ := hd
  exact fun H locs ls h1 h2 h3 h4 => lv_lstore hX.1 hX.2.1 hd h3 hn rfl (fun ls' h => k H locs ls' h1 h2 (st2 h3 hn hp h) (h4.trans (by simp)))
theorem r_astore_n (hX : OkX X cc own fr lc) {j : Fin 4} {i : Nat} {x : Nat} (hd : Dc cc pc (.astore_n j) 1 pc') (hi : (j : Nat) = i) (hn : i < lo.length) (hp : pvOk lo i = true) (k : GoN X sh n kc ks M pc' (lo.set i (some (.ref x))) st) : GoN X sh n kc ks M pc lo (.ref x :: st) := by
  obtain ⟨hd, rfl⟩ := hd
  exact fun H locs ls h1 h2 h3 h4 => lv_astore_n hX.1 hX.2.1 hd hi h3 hn rfl (fun ls' h => k H locs ls' h1 h2 (st1 h3 hn hp h) (h4.trans (by simp)))
theorem r_astore (hX : OkX X cc own fr lc) {i : Nat} {x : Nat} (hd : Dc cc pc (.astore i) 2 pc') (hn : i < lo.length) (hp : pvOk lo i = true) (k : GoN X sh n kc ks M pc' (lo.set i (some (.ref x))) st) : GoN X sh n kc ks M pc lo (.ref x :: st) := by
  obtain ⟨hd, rfl⟩ := hd
  exact fun H locs ls h1 h2 h3 h4 => lv_astore hX.1 hX.2.1 hd h3 hn rfl (fun ls' h => k H locs ls' h1 h2 (st1 h3 hn hp h) (h4.trans (by simp)))
theorem r_iinc (hX : OkX X cc own fr lc) {i : Nat} {z : Int} {x v : Int32} (hd : Dc cc pc (.iinc i z) 3 pc') (hl : lo[i]? = some (some (.int x))) (hv : x + Int32.ofInt z = v) (hn : i < lo.length) (hp : pvOk lo i = true) (k : GoN X sh n kc ks M pc' (lo.set i (some (.int v))) st) : GoN X sh n kc ks M pc lo st := by
  obtain ⟨hd, rfl⟩ := hd
  intro H locs ls h1 h2 h3 h4
  obtain ⟨kk, hkk⟩ := List.getElem?_of_mem ((lpr_mem lo 0 i (.int x)).mpr ⟨i, (Nat.zero_add i).symm, hl⟩)
  exact lv_iinc hX.1 hX.2.1 hd h3 hkk hv hn rfl (fun ls' h => k H locs ls' h1 h2 (st1 h3 hn hp h) (h4.trans (by simp)))
theorem r_iadd (hX : OkX X cc own fr lc) {x y : Int32} (hd : Dc cc pc (.iadd) 1 pc') (k : GoN X sh n kc ks M pc' lo (.int (x + y) :: st)) : GoN X sh n kc ks M pc lo (.int y :: .int x :: st) := by
  obtain ⟨hd, rfl⟩ := hd
  exact fun H locs ls h1 h2 h3 h4 => lv_iadd hX.1 hX.2.1 hd (k H locs ls h1 h2 h3 h4)
theorem r_isub (hX : OkX X cc own fr lc) {x y : Int32} (hd : Dc cc pc (.isub) 1 pc') (k : GoN X sh n kc ks M pc' lo (.int (x - y) :: st)) : GoN X sh n kc ks M pc lo (.int y :: .int x :: st) := by
  obtain ⟨hd, rfl⟩ := hd
  exact fun H locs ls h1 h2 h3 h4 => lv_isub hX.1 hX.2.1 hd (k H locs ls h1 h2 h3 h4)
theorem r_imul (hX : OkX X cc own fr lc) {x y : Int32} (hd : Dc cc pc (.imul) 1 pc') (k : GoN X sh n kc ks M pc' lo (.int (x * y) :: st)) : GoN X sh n kc ks M pc lo (.int y :: .int x :: st) := by
  obtain ⟨hd, rfl⟩ := hd
  exact fun H locs ls h1 h2 h3 h4 => lv_imul hX.1 hX.2.1 hd (k H locs ls h1 h2 h3 h4)
theorem r_iand (hX : OkX X cc own fr lc) {x y : Int32} (hd : Dc cc pc (.iand) 1 pc') (k : GoN X sh n kc ks M pc' lo (.int (x &&& y) :: st)) : GoN X sh n kc ks M pc lo (.int y :: .int x :: st) := by
  obtain ⟨hd, rfl⟩ := hd
  exact fun H locs ls h1 h2 h3 h4 => lv_iand hX.1 hX.2.1 hd (k H locs ls h1 h2 h3 h4)
theorem r_ior (hX : OkX X cc own fr lc) {x y : Int32} (hd : Dc cc pc (.ior) 1 pc') (k : GoN X sh n kc ks M pc' lo (.int (x ||| y) :: st)) : GoN X sh n kc ks M pc lo (.int y :: .int x :: st) := by
  obtain ⟨hd, rfl⟩ := hd
  exact fun H locs ls h1 h2 h3 h4 => lv_ior hX.1 hX.2.1 hd (k H locs ls h1 h2 h3 h4)
theorem r_ixor (hX : OkX X cc own fr lc) {x y : Int32} (hd : Dc cc pc (.ixor) 1 pc') (k : GoN X sh n kc ks M pc' lo (.int (x ^^^ y) :: st)) : GoN X sh n kc ks M pc lo (.int y :: .int x :: st) := by
  obtain ⟨hd, rfl⟩ := hd
  exact fun H locs ls h1 h2 h3 h4 => lv_ixor hX.1 hX.2.1 hd (k H locs ls h1 h2 h3 h4)
theorem r_ladd (hX : OkX X cc own fr lc) {x y : Int64} (hd : Dc cc pc (.ladd) 1 pc') (k : GoN X sh n kc ks M pc' lo (.long (x + y) :: st)) : GoN X sh n kc ks M pc lo (.long y :: .long x :: st) := by
  obtain ⟨hd, rfl⟩ := hd
  exact fun H locs ls h1 h2 h3 h4 => lv_ladd hX.1 hX.2.1 hd (k H locs ls h1 h2 h3 h4)
theorem r_lsub (hX : OkX X cc own fr lc) {x y : Int64} (hd : Dc cc pc (.lsub) 1 pc') (k : GoN X sh n kc ks M pc' lo (.long (x - y) :: st)) : GoN X sh n kc ks M pc lo (.long y :: .long x :: st) := by
  obtain ⟨hd, rfl⟩ := hd
  exact fun H locs ls h1 h2 h3 h4 => lv_lsub hX.1 hX.2.1 hd (k H locs ls h1 h2 h3 h4)
theorem r_lmul (hX : OkX X cc own fr lc) {x y : Int64} (hd : Dc cc pc (.lmul) 1 pc') (k : GoN X sh n kc ks M pc' lo (.long (x * y) :: st)) : GoN X sh n kc ks M pc lo (.long y :: .long x :: st) := by
  obtain ⟨hd, rfl⟩ := hd
  exact fun H locs ls h1 h2 h3 h4 => lv_lmul hX.1 hX.2.1 hd (k H locs ls h1 h2 h3 h4)
theorem r_land (hX : OkX X cc own fr lc) {x y : Int64} (hd : Dc cc pc (.land) 1 pc') (k : GoN X sh n kc ks M pc' lo (.long (x &&& y) :: st)) : GoN X sh n kc ks M pc lo (.long y :: .long x :: st) := by
  obtain ⟨hd, rfl⟩ := hd
  exact fun H locs ls h1 h2 h3 h4 => lv_land hX.1 hX.2.1 hd (k H locs ls h1 h2 h3 h4)
theorem r_lor (hX : OkX X cc own fr lc) {x y : Int64} (hd : Dc cc pc (.lor) 1 pc') (k : GoN X sh n kc ks M pc' lo (.long (x ||| y) :: st)) : GoN X sh n kc ks M pc lo (.long y :: .long x :: st) := by
  obtain ⟨hd, rfl⟩ := hd
  exact fun H locs ls h1 h2 h3 h4 => lv_lor hX.1 hX.2.1 hd (k H locs ls h1 h2 h3 h4)
theorem r_lxor (hX : OkX X cc own fr lc) {x y : Int64} (hd : Dc cc pc (.lxor) 1 pc') (k : GoN X sh n kc ks M pc' lo (.long (x ^^^ y) :: st)) : GoN X sh n kc ks M pc lo (.long y :: .long x :: st) := by
  obtain ⟨hd, rfl⟩ := hd
  exact fun H locs ls h1 h2 h3 h4 => lv_lxor hX.1 hX.2.1 hd (k H locs ls h1 h2 h3 h4)
theorem r_idiv (hX : OkX X cc own fr lc) {x y : Int32} (hd : Dc cc pc (.idiv) 1 pc') (hne : (y == 0) = false) (k : GoN X sh n kc ks M pc' lo (.int (x / y) :: st)) : GoN X sh n kc ks M pc lo (.int y :: .int x :: st) := by
  obtain ⟨hd, rfl⟩ := hd
  exact fun H locs ls h1 h2 h3 h4 => lv_idiv hX.1 hX.2.1 hd (by simpa using hne) (k H locs ls h1 h2 h3 h4)
theorem r_irem (hX : OkX X cc own fr lc) {x y : Int32} (hd : Dc cc pc (.irem) 1 pc') (hne : (y == 0) = false) (k : GoN X sh n kc ks M pc' lo (.int (x - x / y * y) :: st)) : GoN X sh n kc ks M pc lo (.int y :: .int x :: st) := by
  obtain ⟨hd, rfl⟩ := hd
  exact fun H locs ls h1 h2 h3 h4 => lv_irem hX.1 hX.2.1 hd (by simpa using hne) (k H locs ls h1 h2 h3 h4)
theorem r_ldiv (hX : OkX X cc own fr lc) {x y : Int64} (hd : Dc cc pc (.ldiv) 1 pc') (hne : (y == 0) = false) (k : GoN X sh n kc ks M pc' lo (.long (x / y) :: st)) : GoN X sh n kc ks M pc lo (.long y :: .long x :: st) := by
  obtain ⟨hd, rfl⟩ := hd
  exact fun H locs ls h1 h2 h3 h4 => lv_ldiv hX.1 hX.2.1 hd (by simpa using hne) (k H locs ls h1 h2 h3 h4)
theorem r_lrem (hX : OkX X cc own fr lc) {x y : Int64} (hd : Dc cc pc (.lrem) 1 pc') (hne : (y == 0) = false) (k : GoN X sh n kc ks M pc' lo (.long (x - x / y * y) :: st)) : GoN X sh n kc ks M pc lo (.long y :: .long x :: st) := by
  obtain ⟨hd, rfl⟩ := hd
  exact fun H locs ls h1 h2 h3 h4 => lv_lrem hX.1 hX.2.1 hd (by simpa using hne) (k H locs ls h1 h2 h3 h4)
theorem r_ineg (hX : OkX X cc own fr lc) {x : Int32} (hd : Dc cc pc (.ineg) 1 pc') (k : GoN X sh n kc ks M pc' lo (.int (-x) :: st)) : GoN X sh n kc ks M pc lo (.int x :: st) := by
  obtain ⟨hd, rfl⟩ := hd
  exact fun H locs ls h1 h2 h3 h4 => lv_ineg hX.1 hX.2.1 hd (k H locs ls h1 h2 h3 h4)
theorem r_ishl (hX : OkX X cc own fr lc) {x y : Int32} (hd : Dc cc pc (.ishl) 1 pc') (k : GoN X sh n kc ks M pc' lo (.int (x <<< (y &&& 31)) :: st)) : GoN X sh n kc ks M pc lo (.int y :: .int x :: st) := by
  obtain ⟨hd, rfl⟩ := hd
  exact fun H locs ls h1 h2 h3 h4 => lv_ishl hX.1 hX.2.1 hd (k H locs ls h1 h2 h3 h4)
theorem r_ishr (hX : OkX X cc own fr lc) {x y : Int32} (hd : Dc cc pc (.ishr) 1 pc') (k : GoN X sh n kc ks M pc' lo (.int (x >>> (y &&& 31)) :: st)) : GoN X sh n kc ks M pc lo (.int y :: .int x :: st) := by
  obtain ⟨hd, rfl⟩ := hd
  exact fun H locs ls h1 h2 h3 h4 => lv_ishr hX.1 hX.2.1 hd (k H locs ls h1 h2 h3 h4)
theorem r_lshl (hX : OkX X cc own fr lc) {x : Int64} {y : Int32} (hd : Dc cc pc (.lshl) 1 pc') (k : GoN X sh n kc ks M pc' lo (.long (x <<< (y.toInt64 &&& 63)) :: st)) : GoN X sh n kc ks M pc lo (.int y :: .long x :: st) := by
  obtain ⟨hd, rfl⟩ := hd
  exact fun H locs ls h1 h2 h3 h4 => lv_lshl hX.1 hX.2.1 hd rfl (k H locs ls h1 h2 h3 h4)
theorem r_lshr (hX : OkX X cc own fr lc) {x : Int64} {y : Int32} (hd : Dc cc pc (.lshr) 1 pc') (k : GoN X sh n kc ks M pc' lo (.long (x >>> (y.toInt64 &&& 63)) :: st)) : GoN X sh n kc ks M pc lo (.int y :: .long x :: st) := by
  obtain ⟨hd, rfl⟩ := hd
  exact fun H locs ls h1 h2 h3 h4 => lv_lshr hX.1 hX.2.1 hd rfl (k H locs ls h1 h2 h3 h4)
theorem r_lushr (hX : OkX X cc own fr lc) {x : Int64} {y : Int32} (hd : Dc cc pc (.lushr) 1 pc') (k : GoN X sh n kc ks M pc' lo (.long ((x.toUInt64 >>> (y.toInt64.toUInt64 &&& Int64.toUInt64 63)).toInt64) :: st)) : GoN X sh n kc ks M pc lo (.int y :: .long x :: st) := by
  obtain ⟨hd, rfl⟩ := hd
  exact fun H locs ls h1 h2 h3 h4 => lv_lushr hX.1 hX.2.1 hd rfl (k H locs ls h1 h2 h3 h4)
theorem r_i2l (hX : OkX X cc own fr lc) {x : Int32} (hd : Dc cc pc (.i2l) 1 pc') (k : GoN X sh n kc ks M pc' lo (.long x.toInt64 :: st)) : GoN X sh n kc ks M pc lo (.int x :: st) := by
  obtain ⟨hd, rfl⟩ := hd
  exact fun H locs ls h1 h2 h3 h4 => lv_i2l hX.1 hX.2.1 hd rfl (k H locs ls h1 h2 h3 h4)
theorem r_l2i (hX : OkX X cc own fr lc) {x : Int64} (hd : Dc cc pc (.l2i) 1 pc') (k : GoN X sh n kc ks M pc' lo (.int x.toInt32 :: st)) : GoN X sh n kc ks M pc lo (.long x :: st) := by
  obtain ⟨hd, rfl⟩ := hd
  exact fun H locs ls h1 h2 h3 h4 => lv_l2i hX.1 hX.2.1 hd rfl (k H locs ls h1 h2 h3 h4)
theorem r_i2b (hX : OkX X cc own fr lc) {x : Int32} (hd : Dc cc pc (.i2b) 1 pc') (k : GoN X sh n kc ks M pc' lo (.int x.toInt8.toInt32 :: st)) : GoN X sh n kc ks M pc lo (.int x :: st) := by
  obtain ⟨hd, rfl⟩ := hd
  exact fun H locs ls h1 h2 h3 h4 => lv_i2b hX.1 hX.2.1 hd rfl (k H locs ls h1 h2 h3 h4)
theorem r_i2c (hX : OkX X cc own fr lc) {x : Int32} (hd : Dc cc pc (.i2c) 1 pc') (k : GoN X sh n kc ks M pc' lo (.int (x.toUInt32 % 65536).toInt32 :: st)) : GoN X sh n kc ks M pc lo (.int x :: st) := by
  obtain ⟨hd, rfl⟩ := hd
  exact fun H locs ls h1 h2 h3 h4 => lv_i2c hX.1 hX.2.1 hd rfl (k H locs ls h1 h2 h3 h4)
theorem r_i2s (hX : OkX X cc own fr lc) {x : Int32} (hd : Dc cc pc (.i2s) 1 pc') (k : GoN X sh n kc ks M pc' lo (.int x.toInt16.toInt32 :: st)) : GoN X sh n kc ks M pc lo (.int x :: st) := by
  obtain ⟨hd, rfl⟩ := hd
  exact fun H locs ls h1 h2 h3 h4 => lv_i2s hX.1 hX.2.1 hd rfl (k H locs ls h1 h2 h3 h4)
theorem r_lcmp (hX : OkX X cc own fr lc) {x y : Int64} (hd : Dc cc pc (.lcmp) 1 pc') (k : GoN X sh n kc ks M pc' lo (.int (lg_cmp x y) :: st)) : GoN X sh n kc ks M pc lo (.long y :: .long x :: st) := by
  obtain ⟨hd, rfl⟩ := hd
  exact fun H locs ls h1 h2 h3 h4 => W.lcmp hX.1 hX.2.1 hd (k H locs ls h1 h2 h3 h4)
theorem r_dup (hX : OkX X cc own fr lc) {v : Value} (hd : Dc cc pc (.dup) 1 pc') (hv : v.category = 1) (k : GoN X sh n kc ks M pc' lo (v :: v :: st)) : GoN X sh n kc ks M pc lo (v :: st) := by
  obtain ⟨hd, rfl⟩ := hd
  exact fun H locs ls h1 h2 h3 h4 => lv_dup hX.1 hX.2.1 hd hv (k H locs ls h1 h2 h3 h4)
theorem r_pop (hX : OkX X cc own fr lc) {v : Value} (hd : Dc cc pc (.pop) 1 pc') (hv : v.category = 1) (k : GoN X sh n kc ks M pc' lo (st)) : GoN X sh n kc ks M pc lo (v :: st) := by
  obtain ⟨hd, rfl⟩ := hd
  exact fun H locs ls h1 h2 h3 h4 => lv_pop hX.1 hX.2.1 hd hv (k H locs ls h1 h2 h3 h4)
theorem r_dup2_11 (hX : OkX X cc own fr lc) {v w : Value} (hd : Dc cc pc (.dup2) 1 pc') (hv : v.category = 1) (hw : w.category = 1) (k : GoN X sh n kc ks M pc' lo (v :: w :: v :: w :: st)) : GoN X sh n kc ks M pc lo (v :: w :: st) := by
  obtain ⟨hd, rfl⟩ := hd
  exact fun H locs ls h1 h2 h3 h4 => lv_dup2_11 hX.1 hX.2.1 hd hv hw (k H locs ls h1 h2 h3 h4)
theorem r_dup2_2 (hX : OkX X cc own fr lc) {v : Value} (hd : Dc cc pc (.dup2) 1 pc') (hv : v.category = 2) (k : GoN X sh n kc ks M pc' lo (v :: v :: st)) : GoN X sh n kc ks M pc lo (v :: st) := by
  obtain ⟨hd, rfl⟩ := hd
  exact fun H locs ls h1 h2 h3 h4 => lv_dup2_2 hX.1 hX.2.1 hd hv (k H locs ls h1 h2 h3 h4)
theorem r_if_eq (hX : OkX X cc own fr lc) {x : Int32} {off : Int} (hd : Dj cc pc (.ifCond .eq off) off tgt pc') (kt : x = 0 → GoN X sh n kc ks M tgt lo st) (kf : ¬ x = 0 → GoN X sh n kc ks M pc' lo st) : GoN X sh n kc ks M pc lo (.int x :: st) := by
  obtain ⟨hd, ht, rfl⟩ := hd
  exact fun H locs ls h1 h2 h3 h4 => lv_if_eq hX.1 hX.2.1 hd ht (fun h => kt h H locs ls h1 h2 h3 h4) (fun h => kf h H locs ls h1 h2 h3 h4)
theorem r_icmp_eq (hX : OkX X cc own fr lc) {x y : Int32} {off : Int} (hd : Dj cc pc (.if_icmp .eq off) off tgt pc') (kt : x = y → GoN X sh n kc ks M tgt lo st) (kf : ¬ x = y → GoN X sh n kc ks M pc' lo st) : GoN X sh n kc ks M pc lo (.int y :: .int x :: st) := by
  obtain ⟨hd, ht, rfl⟩ := hd
  exact fun H locs ls h1 h2 h3 h4 => lv_icmp_eq hX.1 hX.2.1 hd ht (fun h => kt h H locs ls h1 h2 h3 h4) (fun h => kf h H locs ls h1 h2 h3 h4)
theorem r_if_ne (hX : OkX X cc own fr lc) {x : Int32} {off : Int} (hd : Dj cc pc (.ifCond .ne off) off tgt pc') (kt : ¬ x = 0 → GoN X sh n kc ks M tgt lo st) (kf : x = 0 → GoN X sh n kc ks M pc' lo st) : GoN X sh n kc ks M pc lo (.int x :: st) := by
  obtain ⟨hd, ht, rfl⟩ := hd
  exact fun H locs ls h1 h2 h3 h4 => lv_if_ne hX.1 hX.2.1 hd ht (fun h => kt h H locs ls h1 h2 h3 h4) (fun h => kf h H locs ls h1 h2 h3 h4)
theorem r_icmp_ne (hX : OkX X cc own fr lc) {x y : Int32} {off : Int} (hd : Dj cc pc (.if_icmp .ne off) off tgt pc') (kt : ¬ x = y → GoN X sh n kc ks M tgt lo st) (kf : x = y → GoN X sh n kc ks M pc' lo st) : GoN X sh n kc ks M pc lo (.int y :: .int x :: st) := by
  obtain ⟨hd, ht, rfl⟩ := hd
  exact fun H locs ls h1 h2 h3 h4 => lv_icmp_ne hX.1 hX.2.1 hd ht (fun h => kt h H locs ls h1 h2 h3 h4) (fun h => kf h H locs ls h1 h2 h3 h4)
theorem r_if_lt (hX : OkX X cc own fr lc) {x : Int32} {off : Int} (hd : Dj cc pc (.ifCond .lt off) off tgt pc') (kt : x < 0 → GoN X sh n kc ks M tgt lo st) (kf : ¬ x < 0 → GoN X sh n kc ks M pc' lo st) : GoN X sh n kc ks M pc lo (.int x :: st) := by
  obtain ⟨hd, ht, rfl⟩ := hd
  exact fun H locs ls h1 h2 h3 h4 => lv_if_lt hX.1 hX.2.1 hd ht (fun h => kt h H locs ls h1 h2 h3 h4) (fun h => kf h H locs ls h1 h2 h3 h4)
theorem r_icmp_lt (hX : OkX X cc own fr lc) {x y : Int32} {off : Int} (hd : Dj cc pc (.if_icmp .lt off) off tgt pc') (kt : x < y → GoN X sh n kc ks M tgt lo st) (kf : ¬ x < y → GoN X sh n kc ks M pc' lo st) : GoN X sh n kc ks M pc lo (.int y :: .int x :: st) := by
  obtain ⟨hd, ht, rfl⟩ := hd
  exact fun H locs ls h1 h2 h3 h4 => lv_icmp_lt hX.1 hX.2.1 hd ht (fun h => kt h H locs ls h1 h2 h3 h4) (fun h => kf h H locs ls h1 h2 h3 h4)
theorem r_if_ge (hX : OkX X cc own fr lc) {x : Int32} {off : Int} (hd : Dj cc pc (.ifCond .ge off) off tgt pc') (kt : 0 ≤ x → GoN X sh n kc ks M tgt lo st) (kf : ¬ 0 ≤ x → GoN X sh n kc ks M pc' lo st) : GoN X sh n kc ks M pc lo (.int x :: st) := by
  obtain ⟨hd, ht, rfl⟩ := hd
  exact fun H locs ls h1 h2 h3 h4 => lv_if_ge hX.1 hX.2.1 hd ht (fun h => kt h H locs ls h1 h2 h3 h4) (fun h => kf h H locs ls h1 h2 h3 h4)
theorem r_icmp_ge (hX : OkX X cc own fr lc) {x y : Int32} {off : Int} (hd : Dj cc pc (.if_icmp .ge off) off tgt pc') (kt : y ≤ x → GoN X sh n kc ks M tgt lo st) (kf : ¬ y ≤ x → GoN X sh n kc ks M pc' lo st) : GoN X sh n kc ks M pc lo (.int y :: .int x :: st) := by
  obtain ⟨hd, ht, rfl⟩ := hd
  exact fun H locs ls h1 h2 h3 h4 => lv_icmp_ge hX.1 hX.2.1 hd ht (fun h => kt h H locs ls h1 h2 h3 h4) (fun h => kf h H locs ls h1 h2 h3 h4)
theorem r_if_gt (hX : OkX X cc own fr lc) {x : Int32} {off : Int} (hd : Dj cc pc (.ifCond .gt off) off tgt pc') (kt : 0 < x → GoN X sh n kc ks M tgt lo st) (kf : ¬ 0 < x → GoN X sh n kc ks M pc' lo st) : GoN X sh n kc ks M pc lo (.int x :: st) := by
  obtain ⟨hd, ht, rfl⟩ := hd
  exact fun H locs ls h1 h2 h3 h4 => lv_if_gt hX.1 hX.2.1 hd ht (fun h => kt h H locs ls h1 h2 h3 h4) (fun h => kf h H locs ls h1 h2 h3 h4)
theorem r_icmp_gt (hX : OkX X cc own fr lc) {x y : Int32} {off : Int} (hd : Dj cc pc (.if_icmp .gt off) off tgt pc') (kt : y < x → GoN X sh n kc ks M tgt lo st) (kf : ¬ y < x → GoN X sh n kc ks M pc' lo st) : GoN X sh n kc ks M pc lo (.int y :: .int x :: st) := by
  obtain ⟨hd, ht, rfl⟩ := hd
  exact fun H locs ls h1 h2 h3 h4 => lv_icmp_gt hX.1 hX.2.1 hd ht (fun h => kt h H locs ls h1 h2 h3 h4) (fun h => kf h H locs ls h1 h2 h3 h4)
theorem r_if_le (hX : OkX X cc own fr lc) {x : Int32} {off : Int} (hd : Dj cc pc (.ifCond .le off) off tgt pc') (kt : x ≤ 0 → GoN X sh n kc ks M tgt lo st) (kf : ¬ x ≤ 0 → GoN X sh n kc ks M pc' lo st) : GoN X sh n kc ks M pc lo (.int x :: st) := by
  obtain ⟨hd, ht, rfl⟩ := hd
  exact fun H locs ls h1 h2 h3 h4 => lv_if_le hX.1 hX.2.1 hd ht (fun h => kt h H locs ls h1 h2 h3 h4) (fun h => kf h H locs ls h1 h2 h3 h4)
theorem r_icmp_le (hX : OkX X cc own fr lc) {x y : Int32} {off : Int} (hd : Dj cc pc (.if_icmp .le off) off tgt pc') (kt : x ≤ y → GoN X sh n kc ks M tgt lo st) (kf : ¬ x ≤ y → GoN X sh n kc ks M pc' lo st) : GoN X sh n kc ks M pc lo (.int y :: .int x :: st) := by
  obtain ⟨hd, ht, rfl⟩ := hd
  exact fun H locs ls h1 h2 h3 h4 => lv_icmp_le hX.1 hX.2.1 hd ht (fun h => kt h H locs ls h1 h2 h3 h4) (fun h => kf h H locs ls h1 h2 h3 h4)
theorem r_goto (hX : OkX X cc own fr lc) {off : Int} (hd : Dj cc pc (.goto off) off tgt pc') (k : GoN X sh n kc ks M tgt lo st) : GoN X sh n kc ks M pc lo st := by
  obtain ⟨hd, ht, rfl⟩ := hd
  exact fun H locs ls h1 h2 h3 h4 => lv_goto hX.1 hX.2.1 hd ht (k H locs ls h1 h2 h3 h4)
theorem r_tabOut (hX : OkX X cc own fr lc) {dflt l h : Int} {offs : Array Int} {len : Nat} {x : Int32} (hd : decode cc pc = .ok (.tableswitch dflt l h offs, len)) (ho : x.toInt < l ∨ h < x.toInt) (ht : (pc : Int) + dflt = (tgt : Int)) (k : GoN X sh n kc ks M tgt lo st) : GoN X sh n kc ks M pc lo (.int x :: st) :=
  fun H locs ls h1 h2 h3 h4 => lv_tableOut hX.1 hX.2.1 hd ho ht (k H locs ls h1 h2 h3 h4)
theorem r_tabIn (hX : OkX X cc own fr lc) {dflt l h : Int} {offs : Array Int} {len : Nat} {x : Int32} {off : Int} (hd : decode cc pc = .ok (.tableswitch dflt l h offs, len)) (hl : ¬ x.toInt < l) (hh : ¬ h < x.toInt) (ho : offs[(x.toInt - l).toNat]? = some off) (ht : (pc : Int) + off = (tgt : Int)) (k : GoN X sh n kc ks M tgt lo st) : GoN X sh n kc ks M pc lo (.int x :: st) :=
  fun H locs ls h1 h2 h3 h4 => lv_tableIn hX.1 hX.2.1 hd hl hh ho ht (k H locs ls h1 h2 h3 h4)
theorem r_lookup (hX : OkX X cc own fr lc) {dflt : Int} {ps : Array (Int × Int)} {len : Nat} {x : Int32} {off : Int} (hd : decode cc pc = .ok (.lookupswitch dflt ps, len)) (hp : (ps.toList.zip (ps.toList.drop 1)).all (fun (a, next) => a.1 < next.1) = true) (ho : Op.lookupswitch.offset ps.toList dflt x.toInt = off) (ht : (pc : Int) + off = (tgt : Int)) (k : GoN X sh n kc ks M tgt lo st) : GoN X sh n kc ks M pc lo (.int x :: st) :=
  fun H locs ls h1 h2 h3 h4 => lv_lookup hX.1 hX.2.1 hd hp ho ht (k H locs ls h1 h2 h3 h4)
/-- a field of the class ci, at the place k, by the pool's entry idx of own -/
def FL (own : String) (idx ci k : Nat) : Prop := ∃ r : vw_C, cls[ci]? = some r ∧ k < r.2.2 ∧ (∀ w ∈ u_ws r.1 r.2.1 r.2.2, w ∈ WALL) ∧ (r.2.1 k).1 = r.1 ∧ Cond.fieldLink own idx r.1 (r.2.1 k).2.1 (r.2.1 k).2.2.1 ∈ WALL ∧ ci < 100
/-- a field that isn't final, its type -/
def FP (ci k : Nat) (ty : FieldType) : Prop := ∃ (r : vw_C) (ty0 : Nat → FieldType), cls[ci]? = some r ∧ (∀ j, j < r.2.2 → parseFieldDescriptor (r.2.1 j).2.2.1 = some (ty0 j)) ∧ (∀ a, a < r.2.2 → ∀ b, b < r.2.2 → a ≠ b → (r.2.1 a).2.1 ≠ (r.2.1 b).2.1) ∧ (r.2.1 k).2.2.2 = false ∧ parseFieldDescriptor (r.2.1 k).2.2.1 = some ty
theorem FL.lt {idx ci k : Nat} (h : FL own idx ci k) : ci < 100 := by
  obtain ⟨_, _, _, _, _, _, h⟩ := h
  exact h
theorem Fit.ob (hn : Fit X sh n) {q ci : Nat} (hq : oB sh q ci = true) (hc : ci < 100) : q < n := hn.1 q (by rw [oB_s hq]; omega)
theorem get0 (hX : OkX X cc own fr lc) {idx ci k t q : Nat} (hd : Dc cc pc (.getfield idx) 3 pc') (hf : FL own idx ci k) (hn : q < n) (hk : (fk ci)[k]? = some t) (hq : (sh q).1 = ci) (kk : GoN X sh n kc ks M pc' lo (fsV X.B M q k t :: st)) : GoN X sh n kc ks M pc lo (.ref (X.B + q) :: st) := by
  obtain ⟨hd, rfl⟩ := hd
  obtain ⟨⟨C, T, N⟩, f1, f2, f3, f4, f5, f6⟩ := hf
  intro H locs ls h1 h2 h3 h4
  have he : (wsOf X.cA X.B sh n M)[q]? = some (X.B + q, .inr (ci, fsOf X.B M q (fk ci))) := by rw [ws_get hn, ce_obj hq f6]
  refine va_get hX.1 hX.2.1 hX.2.2.2.1 f3 hX.2.2.1 hX.2.2.2.2.1 h1 q he f1 k f2 (hX.2.2.2.1 _ f5) (fun x hx => ?_) (fs_get hk) hd (kk H locs ls h1 h2 h3 h4)
  have f4' : (T k).1 = C := f4
  rw [← f4']
  exact hx
theorem r_getI (hX : OkX X cc own fr lc) (hn : Fit X sh n) {idx ci k q : Nat} (hd : Dc cc pc (.getfield idx) 3 pc') (hf : FL own idx ci k) (hk : (fk ci)[k]? = some 0) (hq : oB sh q ci = true) (kk : GoN X sh n kc ks M pc' lo (.int (gI M q k) :: st)) : GoN X sh n kc ks M pc lo (.ref (X.B + q) :: st) :=
  get0 hX hd hf (hn.ob hq hf.lt) hk (oB_s hq) kk
theorem r_getL (hX : OkX X cc own fr lc) (hn : Fit X sh n) {idx ci k q : Nat} (hd : Dc cc pc (.getfield idx) 3 pc') (hf : FL own idx ci k) (hk : (fk ci)[k]? = some 1) (hq : oB sh q ci = true) (kk : GoN X sh n kc ks M pc' lo (.long (gL M q k) :: st)) : GoN X sh n kc ks M pc lo (.ref (X.B + q) :: st) :=
  get0 hX hd hf (hn.ob hq hf.lt) hk (oB_s hq) kk
theorem r_getR (hX : OkX X cc own fr lc) (hn : Fit X sh n) {idx ci k q r : Nat} (hd : Dc cc pc (.getfield idx) 3 pc') (hf : FL own idx ci k) (hk : (fk ci)[k]? = some 2) (hq : oB sh q ci = true) (hr : gR M q k = some r) (kk : GoN X sh n kc ks M pc' lo (.ref (X.B + r) :: st)) : GoN X sh n kc ks M pc lo (.ref (X.B + q) :: st) :=
  get0 hX hd hf (hn.ob hq hf.lt) hk (oB_s hq) (by simpa [fsV, hr, va_rf] using kk)
theorem put0 (hX : OkX X cc own fr lc) {idx ci k t q : Nat} {ty : FieldType} {v : Value} {M' : Mem} (hA : ∀ q, q < n → X.A (X.B + q)) (hd : Dc cc pc (.putfield idx) 3 pc') (hf : FL own idx ci k) (hp : FP ci k ty) (hn : q < n) (hk : (fk ci)[k]? = some t) (hq : (sh q).1 = ci) (hnar : narrow ty v = v) (hfit : fits ty v = true)
    (hv : v = fsV X.B M' q k t) (ho1 : ∀ j t', j ≠ k → fsV X.B M' q j t' = fsV X.B M q j t') (ho : ∀ b, b ≠ q → cellE X.cA X.B sh M' b = cellE X.cA X.B sh M b)
    (kk : GoN X sh n kc ks M' pc' lo st) : GoN X sh n kc ks M pc lo (v :: .ref (X.B + q) :: st) := by
  obtain ⟨hd, rfl⟩ := hd
  obtain ⟨⟨C, T, N⟩, f1, f2, f3, f4, f5, f6⟩ := hf
  obtain ⟨r, ty0, g1, g2, g3, g4, g5⟩ := hp
  cases f1.symm.trans g1
  intro H locs ls h1 h2 h3 h4
  have he : (wsOf X.cA X.B sh n M)[q]? = some (X.B + q, .inr (ci, fsOf X.B M q (fk ci))) := by rw [ws_get hn, ce_obj hq f6]
  refine va_put hX.1 hX.2.1 hX.2.2.2.1 f3 ty0 g2 g3 hX.2.2.1 hX.2.2.2.2.1 h1 (ws_D hA) h2 q he f1 k f2 (hX.2.2.2.1 _ f5) (fun x hx => ?_) g4 g5 hnar hfit (by rw [fs_len]; exact (List.getElem?_eq_some_iff.mp hk).1) hd (fun H1 locs1 hP hD hS => ?_)
  · have f4' : (T k).1 = C := f4
    rw [← f4']
    exact hx
  · rw [fs_set hk hv ho1, ws_set (M' := M') (by rw [ce_obj hq f6]) ho] at hP
    exact kk H1 locs1 ls hP hS h3 h4
theorem narZ {v : Int32} (h : isZ v = true) : narrow .boolean (.int v) = .int v := by
  rcases isZ_s h with h | h <;> subst h <;> rfl
theorem fitZ {v : Int32} (h : isZ v = true) : fits .boolean (.int v) = true := by
  rcases isZ_s h with h | h <;> subst h <;> rfl
theorem r_putI (hX : OkX X cc own fr lc) (hn : Fit X sh n) {idx ci k q : Nat} {v : Int32} {M' : Mem} (hM : M' = sI M q k v) (hd : Dc cc pc (.putfield idx) 3 pc') (hf : FL own idx ci k) (hp : FP ci k .int) (hk : (fk ci)[k]? = some 0) (hq : oB sh q ci = true) (kk : GoN X sh n kc ks M' pc' lo st) : GoN X sh n kc ks M pc lo (.int v :: .ref (X.B + q) :: st) := by
  subst hM
  exact put0 hX hn.2 hd hf hp (hn.ob hq hf.lt) hk (oB_s hq) rfl rfl (by simp [fsV, gI_sI]) (fun j t' h => fsV_sI j t' h) sI_o kk
theorem r_putZ (hX : OkX X cc own fr lc) (hn : Fit X sh n) {idx ci k q : Nat} {v : Int32} {M' : Mem} (hM : M' = sI M q k v) (hz : isZ v = true) (hd : Dc cc pc (.putfield idx) 3 pc') (hf : FL own idx ci k) (hp : FP ci k .boolean) (hk : (fk ci)[k]? = some 0) (hq : oB sh q ci = true) (kk : GoN X sh n kc ks M' pc' lo st) : GoN X sh n kc ks M pc lo (.int v :: .ref (X.B + q) :: st) := by
  subst hM
  exact put0 hX hn.2 hd hf hp (hn.ob hq hf.lt) hk (oB_s hq) (narZ hz) (fitZ hz) (by simp [fsV, gI_sI]) (fun j t' h => fsV_sI j t' h) sI_o kk
theorem r_putL (hX : OkX X cc own fr lc) (hn : Fit X sh n) {idx ci k q : Nat} {v : Int64} {M' : Mem} (hM : M' = sL M q k v) (hd : Dc cc pc (.putfield idx) 3 pc') (hf : FL own idx ci k) (hp : FP ci k .long) (hk : (fk ci)[k]? = some 1) (hq : oB sh q ci = true) (kk : GoN X sh n kc ks M' pc' lo st) : GoN X sh n kc ks M pc lo (.long v :: .ref (X.B + q) :: st) := by
  subst hM
  exact put0 hX hn.2 hd hf hp (hn.ob hq hf.lt) hk (oB_s hq) rfl rfl (by simp [fsV, gL_sL]) (fun j t' h => fsV_sL j t' h) sL_o kk
theorem r_putR (hX : OkX X cc own fr lc) (hn : Fit X sh n) {idx ci k q r : Nat} {ty : FieldType} {M' : Mem} (hM : M' = sR M q k (some r)) (hd : Dc cc pc (.putfield idx) 3 pc') (hf : FL own idx ci k) (hp : FP ci k ty) (hk : (fk ci)[k]? = some 2) (hq : oB sh q ci = true) (hna : narrow ty (.ref (X.B + r)) = .ref (X.B + r)) (hfi : fits ty (.ref (X.B + r)) = true) (kk : GoN X sh n kc ks M' pc' lo st) : GoN X sh n kc ks M pc lo (.ref (X.B + r) :: .ref (X.B + q) :: st) := by
  subst hM
  exact put0 hX hn.2 hd hf hp (hn.ob hq hf.lt) hk (oB_s hq) hna hfi (by simp [fsV, gR_sR, va_rf]) (fun j t' h => fsV_sR j t' h) sR_o kk
theorem aget (hn : Fit X sh n) {q t : Nat} {i : Int32} (ht : t < 99) (hb : aB sh q t i = true) : (wsOf X.cA X.B sh n M)[q]? = some (X.B + q, .inl (X.cA t, (sh q).2, arOf X.B M q (ak t))) := by
  obtain ⟨h1, -⟩ := aB_s hb
  rw [ws_get (hn.1 q (by omega)), ce_arr h1]
theorem ar0 {B q : Nat} : arOf B M q 0 = .inl (fun j => gI M q j) := rfl
theorem ar1 {B q : Nat} : arOf B M q 1 = .inr (.inl (fun j => gL M q j)) := rfl
theorem ar2 {B q : Nat} : arOf B M q 2 = .inr (.inr (.inr (.inr (fun j => (gR M q j).map (B + ·))))) := rfl
theorem r_iald (hX : OkX X cc own fr lc) (hn : Fit X sh n) {q : Nat} {i : Int32} (hd : Dc cc pc .iaload 1 pc') (hb : aB sh q 0 i = true) (kk : GoN X sh n kc ks M pc' lo (.int (gI M q i.toNatClampNeg) :: st)) : GoN X sh n kc ks M pc lo (.int i :: .ref (X.B + q) :: st) := by
  obtain ⟨hd, rfl⟩ := hd
  intro H locs ls h1 h2 h3 h4
  exact va_iald hX.1 hX.2.1 hX.2.2.2.2.1 h1 q 0 (f := fun j => gI M q j) (aget hn (by decide) hb) (tys_get (t := 0) rfl) (aB_s hb).2 hd (kk H locs ls h1 h2 h3 h4)
theorem r_zald (hX : OkX X cc own fr lc) (hn : Fit X sh n) {q : Nat} {i : Int32} (hd : Dc cc pc .baload 1 pc') (hb : aB sh q 2 i = true) (kk : GoN X sh n kc ks M pc' lo (.int (gI M q i.toNatClampNeg) :: st)) : GoN X sh n kc ks M pc lo (.int i :: .ref (X.B + q) :: st) := by
  obtain ⟨hd, rfl⟩ := hd
  intro H locs ls h1 h2 h3 h4
  exact va_zald hX.1 hX.2.1 hX.2.2.2.2.1 h1 q 2 (f := fun j => gI M q j) (aget hn (by decide) hb) (tys_get (t := 2) rfl) (aB_s hb).2 hd (kk H locs ls h1 h2 h3 h4)
theorem r_bald (hX : OkX X cc own fr lc) (hn : Fit X sh n) {q : Nat} {i : Int32} (hd : Dc cc pc .baload 1 pc') (hb : aB sh q 3 i = true) (kk : GoN X sh n kc ks M pc' lo (.int (gI M q i.toNatClampNeg) :: st)) : GoN X sh n kc ks M pc lo (.int i :: .ref (X.B + q) :: st) := by
  obtain ⟨hd, rfl⟩ := hd
  intro H locs ls h1 h2 h3 h4
  exact va_bald hX.1 hX.2.1 hX.2.2.2.2.1 h1 q 3 (f := fun j => gI M q j) (aget hn (by decide) hb) (tys_get (t := 3) rfl) (aB_s hb).2 hd (kk H locs ls h1 h2 h3 h4)
theorem r_lald (hX : OkX X cc own fr lc) (hn : Fit X sh n) {q : Nat} {i : Int32} (hd : Dc cc pc .laload 1 pc') (hb : aB sh q 1 i = true) (kk : GoN X sh n kc ks M pc' lo (.long (gL M q i.toNatClampNeg) :: st)) : GoN X sh n kc ks M pc lo (.int i :: .ref (X.B + q) :: st) := by
  obtain ⟨hd, rfl⟩ := hd
  intro H locs ls h1 h2 h3 h4
  exact va_lald hX.1 hX.2.1 hX.2.2.2.2.1 h1 q 1 (f := fun j => gL M q j) (aget hn (by decide) hb) (tys_get (t := 1) rfl) (aB_s hb).2 hd (kk H locs ls h1 h2 h3 h4)
theorem r_aald (hX : OkX X cc own fr lc) (hn : Fit X sh n) {q t r : Nat} {i : Int32} {ty : FieldType} (hd : Dc cc pc .aaload 1 pc') (hb : aB sh q t i = true) (ht : t < 99) (hk : ak t = 2) (hty : tyl[t]? = some ty) (href : ty.isReference = true) (hr : gR M q i.toNatClampNeg = some r) (kk : GoN X sh n kc ks M pc' lo (.ref (X.B + r) :: st)) : GoN X sh n kc ks M pc lo (.int i :: .ref (X.B + q) :: st) := by
  obtain ⟨hd, rfl⟩ := hd
  intro H locs ls h1 h2 h3 h4
  have ha := aget (M := M) hn ht hb
  rw [hk, ar2] at ha
  have hin := (aB_s hb).2
  have hlt : i.toNatClampNeg < (sh q).2 := Nat.not_le.mp fun z => hin (Or.inr z)
  refine W.aald (v := .ref (X.B + r)) hX.1 hX.2.1 (h1 q _ ha) ((hX.2.2.2.2.1.2 t _ (tys_get hty)).1 (sh q).2 (fun j => va_rf ((gR M q j).map (X.B + ·)))) href (fun z => by cases z) (by show ¬ (i < 0 ∨ (arrV _ _ _).slots.size ≤ _); rw [arrV_size]; exact hin) (by show (arrV _ _ _).slots[_]? = _; rw [arrV_read _ _ hlt]; simp [hr, va_rf]) rfl rfl hd (kk H locs ls h1 h2 h3 h4)
theorem r_alen (hX : OkX X cc own fr lc) (hn : Fit X sh n) {q t : Nat} {ty : FieldType} (hd : Dc cc pc .arraylength 1 pc') (hq : oB sh q (100 + t) = true) (ht : t < 99) (hty : tyl[t]? = some ty) (kk : GoN X sh n kc ks M pc' lo (.int (Int32.ofNat (sh q).2) :: st)) : GoN X sh n kc ks M pc lo (.ref (X.B + q) :: st) := by
  obtain ⟨hd, rfl⟩ := hd
  intro H locs ls h1 h2 h3 h4
  have e := oB_s hq
  have ha : (wsOf X.cA X.B sh n M)[q]? = some (X.B + q, .inl (X.cA t, (sh q).2, arOf X.B M q (ak t))) := by rw [ws_get (hn.1 q (by omega)), ce_arr e]
  exact va_alen hX.1 hX.2.1 hX.2.2.2.2.1 h1 q t ha (tys_get hty) rfl hd (kk H locs ls h1 h2 h3 h4)
theorem r_iast (hX : OkX X cc own fr lc) (hn : Fit X sh n) {q : Nat} {i x : Int32} {M' : Mem} (hM : M' = sI M q i.toNatClampNeg x) (hd : Dc cc pc .iastore 1 pc') (hb : aB sh q 0 i = true) (kk : GoN X sh n kc ks M' pc' lo st) : GoN X sh n kc ks M pc lo (.int x :: .int i :: .ref (X.B + q) :: st) := by
  subst hM
  obtain ⟨hd, rfl⟩ := hd
  intro H locs ls h1 h2 h3 h4
  refine va_iast hX.1 hX.2.1 hX.2.2.2.2.1 h1 (ws_D hn.2) h2 q 0 (f := fun j => gI M q j) (aget hn (by decide) hb) (tys_get (t := 0) rfl) (aB_s hb).2 hd (fun H1 locs1 hP hD hS => ?_)
  rw [ws_set (M' := sI M q i.toNatClampNeg x) ?_ sI_o] at hP
  · exact kk H1 locs1 ls hP hS h3 h4
  · rw [ce_arr (aB_s hb).1]
    exact congrArg (fun f => (Sum.inl (X.cA 0, (sh q).2, Sum.inl f) : va_E)) (funext fun j => by simp [upd, gI_sI])
theorem r_zast (hX : OkX X cc own fr lc) (hn : Fit X sh n) {q : Nat} {i x : Int32} {M' : Mem} (hM : M' = sI M q i.toNatClampNeg (vp_nar .boolean x)) (hd : Dc cc pc .bastore 1 pc') (hb : aB sh q 2 i = true) (kk : GoN X sh n kc ks M' pc' lo st) : GoN X sh n kc ks M pc lo (.int x :: .int i :: .ref (X.B + q) :: st) := by
  subst hM
  obtain ⟨hd, rfl⟩ := hd
  intro H locs ls h1 h2 h3 h4
  refine va_zast hX.1 hX.2.1 hX.2.2.2.2.1 h1 (ws_D hn.2) h2 q 2 (f := fun j => gI M q j) (aget hn (by decide) hb) (tys_get (t := 2) rfl) (aB_s hb).2 hd (fun H1 locs1 hP hD hS => ?_)
  rw [ws_set (M' := sI M q i.toNatClampNeg (vp_nar .boolean x)) ?_ sI_o] at hP
  · exact kk H1 locs1 ls hP hS h3 h4
  · rw [ce_arr (aB_s hb).1]
    exact congrArg (fun f => (Sum.inl (X.cA 2, (sh q).2, Sum.inl f) : va_E)) (funext fun j => by simp [upd, gI_sI])
theorem r_bast (hX : OkX X cc own fr lc) (hn : Fit X sh n) {q : Nat} {i x : Int32} {M' : Mem} (hM : M' = sI M q i.toNatClampNeg (vp_nar .byte x)) (hd : Dc cc pc .bastore 1 pc') (hb : aB sh q 3 i = true) (kk : GoN X sh n kc ks M' pc' lo st) : GoN X sh n kc ks M pc lo (.int x :: .int i :: .ref (X.B + q) :: st) := by
  subst hM
  obtain ⟨hd, rfl⟩ := hd
  intro H locs ls h1 h2 h3 h4
  refine va_bast hX.1 hX.2.1 hX.2.2.2.2.1 h1 (ws_D hn.2) h2 q 3 (f := fun j => gI M q j) (aget hn (by decide) hb) (tys_get (t := 3) rfl) (aB_s hb).2 hd (fun H1 locs1 hP hD hS => ?_)
  rw [ws_set (M' := sI M q i.toNatClampNeg (vp_nar .byte x)) ?_ sI_o] at hP
  · exact kk H1 locs1 ls hP hS h3 h4
  · rw [ce_arr (aB_s hb).1]
    exact congrArg (fun f => (Sum.inl (X.cA 3, (sh q).2, Sum.inl f) : va_E)) (funext fun j => by simp [upd, gI_sI])
theorem r_last (hX : OkX X cc own fr lc) (hn : Fit X sh n) {q : Nat} {i : Int32} {x : Int64} {M' : Mem} (hM : M' = sL M q i.toNatClampNeg x) (hd : Dc cc pc .lastore 1 pc') (hb : aB sh q 1 i = true) (kk : GoN X sh n kc ks M' pc' lo st) : GoN X sh n kc ks M pc lo (.long x :: .int i :: .ref (X.B + q) :: st) := by
  subst hM
  obtain ⟨hd, rfl⟩ := hd
  intro H locs ls h1 h2 h3 h4
  refine va_last hX.1 hX.2.1 hX.2.2.2.2.1 h1 (ws_D hn.2) h2 q 1 (f := fun j => gL M q j) (aget hn (by decide) hb) (tys_get (t := 1) rfl) (aB_s hb).2 hd (fun H1 locs1 hP hD hS => ?_)
  rw [ws_set (M' := sL M q i.toNatClampNeg x) ?_ sL_o] at hP
  · exact kk H1 locs1 ls hP hS h3 h4
  · rw [ce_arr (aB_s hb).1]
    exact congrArg (fun f => (Sum.inl (X.cA 1, (sh q).2, Sum.inr (Sum.inl f)) : va_E)) (funext fun j => by simp [vp_updL, gL_sL])
theorem cB_s {t s d : Nat} {sp dp m : Int32} (h : cB sh t s sp d dp m = true) : (sh s).1 = 100 + t ∧ (sh d).1 = 100 + t ∧ ¬ sp < 0 ∧ ¬ dp < 0 ∧ ¬ m < 0 ∧ sp.toNatClampNeg + m.toNatClampNeg ≤ (sh s).2 ∧ dp.toNatClampNeg + m.toNatClampNeg ≤ (sh d).2 := by
  simp only [cB, Bool.and_eq_true, beq_iff_eq, Bool.not_eq_true', decide_eq_false_iff_not, decide_eq_true_eq] at h
  obtain ⟨⟨⟨⟨⟨⟨a, b⟩, c⟩, d⟩, e⟩, f⟩, g⟩ := h
  exact ⟨a, b, c, d, e, f, g⟩
theorem cpI_o {cA : Nat → ClassId} {B : Nat} {s sp d dp m : Nat} (b : Nat) (h : b ≠ d) : cellE cA B sh (cpI M s sp d dp m) b = cellE cA B sh M b :=
  cellE_ne (fun j => by show (if b = d ∧ _ then _ else _) = _; rw [if_neg (fun z => h z.1)]; rfl) (fun _ => rfl) (fun _ => rfl)
theorem cpL_o {cA : Nat → ClassId} {B : Nat} {s sp d dp m : Nat} (b : Nat) (h : b ≠ d) : cellE cA B sh (cpL M s sp d dp m) b = cellE cA B sh M b :=
  cellE_ne (fun _ => rfl) (fun j => by show (if b = d ∧ _ then _ else _) = _; rw [if_neg (fun z => h z.1)]; rfl) (fun _ => rfl)
def CPW (own : String) (idx : Nat) : Prop := Cond.methodLink own idx arraycopyName ∈ WALL ∧ Cond.native arraycopyName ∈ WALL ∧ Cond.static arraycopyName ∈ WALL ∧ Cond.initialized "java/lang/System" ∈ WALL
theorem r_cpI (hX : OkX X cc own fr lc) (hn : Fit X sh n) {idx s d : Nat} {sp dp m : Int32} {M' : Mem} (hM : M' = cpI M s sp.toNatClampNeg d dp.toNatClampNeg m.toNatClampNeg) (hd : Dc cc pc (.invokestatic idx) 3 pc') (hw : CPW own idx) (hb : cB sh 0 s sp d dp m = true) (hf : 1 ≤ fr) (hl : (st.map fun v => v.category).sum + 18 ≤ lc) (kk : GoN X sh n kc ks M' pc' lo st) : GoN X sh n kc ks M pc lo (.int m :: .int dp :: .ref (X.B + d) :: .int sp :: .ref (X.B + s) :: st) := by
  subst hM
  obtain ⟨hd, rfl⟩ := hd
  obtain ⟨b1, b2, b3, b4, b5, b6, b7⟩ := cB_s hb
  obtain ⟨w1, w2, w3, w4⟩ := hw
  have hw := hX.2.2.2.1
  intro H locs ls h1 h2 h3 h4
  refine va_copyi hX.1 hX.2.1 (h4.trans h3.1.symm) hX.2.2.1 (hw _ w1) (hw _ w2) (hw _ w3) (hw _ w4) hX.2.2.2.2.1 h1 (ws_D hn.2) h2 s d 0 0 (f := fun j => gI M s j) (g := fun j => gI M d j) (ty := .int) (by rw [ws_get (hn.1 s (by omega)), ce_arr b1]; rfl) (by rw [ws_get (hn.1 d (by omega)), ce_arr b2]; rfl) (tys_get (t := 0) rfl) (tys_get (t := 0) rfl) rfl b3 b4 b5 b6 b7 (fun _ _ => rfl) (by rw [hX.2.2.2.2.2.1]; exact hf) (by rw [hX.2.2.2.2.2.2.1]; exact hl) hd (fun H1 locs1 hP hD hS => ?_)
  rw [ws_set (M' := cpI M s sp.toNatClampNeg d dp.toNatClampNeg m.toNatClampNeg) ?_ cpI_o] at hP
  · exact kk H1 locs1 ls hP hS h3 h4
  · rw [ce_arr b2]
    exact congrArg (fun f => (Sum.inl (X.cA 0, (sh d).2, Sum.inl f) : va_E)) (funext fun j => by simp [va_cpy, cpI, gI])
theorem r_cpL (hX : OkX X cc own fr lc) (hn : Fit X sh n) {idx s d : Nat} {sp dp m : Int32} {M' : Mem} (hM : M' = cpL M s sp.toNatClampNeg d dp.toNatClampNeg m.toNatClampNeg) (hd : Dc cc pc (.invokestatic idx) 3 pc') (hw : CPW own idx) (hb : cB sh 1 s sp d dp m = true) (hf : 1 ≤ fr) (hl : (st.map fun v => v.category).sum + 18 ≤ lc) (kk : GoN X sh n kc ks M' pc' lo st) : GoN X sh n kc ks M pc lo (.int m :: .int dp :: .ref (X.B + d) :: .int sp :: .ref (X.B + s) :: st) := by
  subst hM
  obtain ⟨hd, rfl⟩ := hd
  obtain ⟨b1, b2, b3, b4, b5, b6, b7⟩ := cB_s hb
  obtain ⟨w1, w2, w3, w4⟩ := hw
  have hw := hX.2.2.2.1
  intro H locs ls h1 h2 h3 h4
  refine va_copyl hX.1 hX.2.1 (h4.trans h3.1.symm) hX.2.2.1 (hw _ w1) (hw _ w2) (hw _ w3) (hw _ w4) hX.2.2.2.2.1 h1 (ws_D hn.2) h2 s d 1 1 (f := fun j => gL M s j) (g := fun j => gL M d j) (ty := .long) (by rw [ws_get (hn.1 s (by omega)), ce_arr b1]; rfl) (by rw [ws_get (hn.1 d (by omega)), ce_arr b2]; rfl) (tys_get (t := 1) rfl) (tys_get (t := 1) rfl) rfl b3 b4 b5 b6 b7 (fun _ _ => rfl) (by rw [hX.2.2.2.2.2.1]; exact hf) (by rw [hX.2.2.2.2.2.2.1]; exact hl) hd (fun H1 locs1 hP hD hS => ?_)
  rw [ws_set (M' := cpL M s sp.toNatClampNeg d dp.toNatClampNeg m.toNatClampNeg) ?_ cpL_o] at hP
  · exact kk H1 locs1 ls hP hS h3 h4
  · rw [ce_arr b2]
    exact congrArg (fun f => (Sum.inl (X.cA 1, (sh d).2, Sum.inr (Sum.inl f)) : va_E)) (funext fun j => by simp [va_cpy, cpL, gL])
/-- a text of the pool -/
theorem r_ldcS (hX : OkX X cc own fr lc) {ix i : Nat} {tx : String} (ho : own = RX6) (hd : Dc cc pc (.ldc ix) 2 pc') (hq : SREF[i]? = some (ix, tx)) (kk : GoN X sh n kc ks M pc' lo (.ref (X.cA (1000 + i)) :: st)) : GoN X sh n kc ks M pc lo st := by
  obtain ⟨hd, rfl⟩ := hd
  have hr := hX.2.2.2.2.2.2.2.1.2.1 i _ hq
  subst ho
  intro H locs ls h1 h2 h3 h4
  exact va_ldcS hX.1 hX.2.1 hX.2.2.1 hr hd (kk H locs ls h1 h2 h3 h4)
theorem r_getsC (hX : OkX X cc own fr lc) {ix : Nat} (hd : Dc cc pc (.getstatic ix) 3 pc') (hw : Cond.fieldLink own ix "java/lang/String" "COMPACT_STRINGS" "Z" ∈ WALL) (kk : GoN X sh n kc ks M pc' lo (.int 1 :: st)) : GoN X sh n kc ks M pc lo st := by
  obtain ⟨hd, rfl⟩ := hd
  have hz := hX.2.2.2.2.2.2.2.1.2.2.1
  have h0 := hX.2.2.2.2.2.2.2.2
  rw [h0] at hz
  intro H locs ls h1 h2 h3 h4
  have h2' := h2
  rw [h0] at h2'
  exact va_gets hX.1 hX.2.1 hz h2' hX.2.2.1 (hX.2.2.2.1 _ hw) (fun _ h => h) hd (kk H locs ls h1 h2 h3 h4)
theorem r_getsF (hX : OkX X cc own fr lc) {ix : Nat} (hd : Dc cc pc (.getstatic ix) 3 pc') (hw : Cond.fieldLink own ix "jdk/internal/util/Preconditions" "SIOOBE_FORMATTER" "Ljava/util/function/BiFunction;" ∈ WALL) (kk : ∀ v : Value, (v = .null ∨ ∃ t, v = .ref t) → GoN X sh n kc ks M pc' lo (v :: st)) : GoN X sh n kc ks M pc lo st := by
  obtain ⟨hd, rfl⟩ := hd
  have hz := hX.2.2.2.2.2.2.2.1.2.2.2
  have h0 := hX.2.2.2.2.2.2.2.2
  rw [h0] at hz
  intro H locs ls h1 h2 h3 h4
  have h2' := h2
  rw [h0] at h2'
  rcases hz with hz | ⟨t, hz⟩
  · exact va_gets hX.1 hX.2.1 hz h2' hX.2.2.1 (hX.2.2.2.1 _ hw) (fun _ h => h) hd (kk _ (Or.inl rfl) H locs ls h1 h2 h3 h4)
  · exact va_gets hX.1 hX.2.1 hz h2' hX.2.2.1 (hX.2.2.2.1 _ hw) (fun _ h => h) hd (kk _ (Or.inr ⟨t, rfl⟩) H locs ls h1 h2 h3 h4)
theorem r_sCod (hX : OkX X cc own fr lc) {ix i : Nat} (hi : i < SBYT.length) (hd : Dc cc pc (.getfield ix) 3 pc') (hw : Cond.fieldLink own ix "java/lang/String" "coder" "B" ∈ WALL) (kk : GoN X sh n kc ks M pc' lo (.int 0 :: st)) : GoN X sh n kc ks M pc lo (.ref (X.cA (1000 + i)) :: st) := by
  obtain ⟨hd, rfl⟩ := hd
  have hz := (hX.2.2.2.2.2.2.2.1.1 i hi).2.1
  have h0 := hX.2.2.2.2.2.2.2.2
  rw [h0] at hz
  intro H locs ls h1 h2 h3 h4
  have h2' := h2
  rw [h0] at h2'
  exact vk_getf hX.1 hX.2.1 hz h2' hX.2.2.1 (hX.2.2.2.1 _ hw) (fun _ h => h) hd (kk H locs ls h1 h2 h3 h4)
theorem r_sVal (hX : OkX X cc own fr lc) {ix i : Nat} (hi : i < SBYT.length) (hd : Dc cc pc (.getfield ix) 3 pc') (hw : Cond.fieldLink own ix "java/lang/String" "value" "[B" ∈ WALL) (kk : GoN X sh n kc ks M pc' lo (.ref (X.cA (2000 + i)) :: st)) : GoN X sh n kc ks M pc lo (.ref (X.cA (1000 + i)) :: st) := by
  obtain ⟨hd, rfl⟩ := hd
  have hz := (hX.2.2.2.2.2.2.2.1.1 i hi).2.2.1
  have h0 := hX.2.2.2.2.2.2.2.2
  rw [h0] at hz
  intro H locs ls h1 h2 h3 h4
  have h2' := h2
  rw [h0] at h2'
  exact vk_getf hX.1 hX.2.1 hz h2' hX.2.2.1 (hX.2.2.2.1 _ hw) (fun _ h => h) hd (kk H locs ls h1 h2 h3 h4)
theorem r_sLen (hX : OkX X cc own fr lc) {i : Nat} (hi : i < SBYT.length) (hd : Dc cc pc .arraylength 1 pc') (kk : GoN X sh n kc ks M pc' lo (.int (Int32.ofNat (SBYT.getD i []).length) :: st)) : GoN X sh n kc ks M pc lo (.ref (X.cA (2000 + i)) :: st) := by
  obtain ⟨hd, rfl⟩ := hd
  have hz := (hX.2.2.2.2.2.2.2.1.1 i hi).2.2.2
  have h0 := hX.2.2.2.2.2.2.2.2
  rw [h0] at hz
  intro H locs ls h1 h2 h3 h4
  have h2' := h2
  rw [h0] at h2'
  exact va_tlen hX.1 hX.2.1 hz h2' rfl hd (kk H locs ls h1 h2 h3 h4)
theorem r_sAt (hX : OkX X cc own fr lc) {i : Nat} {j : Int32} (hi : i < SBYT.length) (hin : inb j (SBYT.getD i []).length = true) (hd : Dc cc pc .baload 1 pc') (kk : GoN X sh n kc ks M pc' lo (.int ((SBYT.getD i []).getD j.toNatClampNeg 0) :: st)) : GoN X sh n kc ks M pc lo (.int j :: .ref (X.cA (2000 + i)) :: st) := by
  obtain ⟨hd, rfl⟩ := hd
  have hz := (hX.2.2.2.2.2.2.2.1.1 i hi).2.2.2
  have h0 := hX.2.2.2.2.2.2.2.2
  rw [h0] at hz
  intro H locs ls h1 h2 h3 h4
  have h2' := h2
  rw [h0] at h2'
  exact va_tb hX.1 hX.2.1 hz h2' (inb_s hin) rfl hd (kk H locs ls h1 h2 h3 h4)
theorem r_aloadV (hX : OkX X cc own fr lc) {i : Nat} {j : Fin 4} {x : Nat} (hd : Dc cc pc (.aload_n j) 1 pc') (hi : (j : Nat) = i) (hl : lo[i]? = some (some (.ref x))) (k : GoN X sh n kc ks M pc' lo (.ref x :: st)) : GoN X sh n kc ks M pc lo st := r_aload_n hX hd hi hl k
end RW
