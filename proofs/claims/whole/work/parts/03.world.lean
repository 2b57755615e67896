abbrev Mem : Type := (Nat → Nat → Int32) × Int64
/-- what stays: fields' places, classes of arrays, addresses of cells, of texts, of their bytes, from where on the cells are ours -/
abbrev Ek : Type := va_G × (Nat → ClassId) × (Nat → Nat) × (Nat → Nat) × (Nat → Nat) × Nat
def eD (E : Ek) : va_G := E.1
def eA (E : Ek) : Nat → ClassId := E.2.1
def ad (E : Ek) : Nat → Nat := E.2.2.1
def eK (E : Ek) : Nat → Nat := E.2.2.2.1
def eV (E : Ek) : Nat → Nat := E.2.2.2.2.1
def eL (E : Ek) : Nat := E.2.2.2.2.2
def frE (E : Ek) : Nat → Prop := fun q => eL E ≤ q
def rd (M : Mem) (q k : Nat) : Int32 := M.1 q k
def wr (M : Mem) (q k : Nat) (v : Int32) : Mem := (fun a => if a = q then upd (M.1 q) k v else M.1 a, M.2)
def wrH (M : Mem) (v : Int64) : Mem := (M.1, v)
theorem wr_self (M : Mem) (q k : Nat) (v : Int32) : (wr M q k v).1 q = upd (M.1 q) k v := by simp [wr]
theorem wr_ne {M : Mem} {q k a : Nat} {v : Int32} (h : a ≠ q) : (wr M q k v).1 a = M.1 a := by simp [wr, h]
theorem rd_wr (M : Mem) (q k : Nat) (v : Int32) (a b : Nat) : rd (wr M q k v) a b = if a = q ∧ b = k then v else rd M a b := by
  unfold rd wr
  by_cases ha : a = q
  · subst ha
    by_cases hb : b = k
    · subst hb; simp [upd]
    · simp [upd, hb]
  · simp [ha]
theorem rd_wrH (M : Mem) (v : Int64) (a b : Nat) : rd (wrH M v) a b = rd M a b := rfl
abbrev classes : List vw_C := [(RX0, TX0, 10), (RX1, TX1, 0), (RX2, TX2, 0), (RX3, TX3, 0), (RX4, TX4, 11), (RX5, TX5, 5), (RX6, TX6, 11), (RX7, TX7, 0), (RX8, TX8, 0), (RX9, TX9, 7), (RX10, TX10, 4), (RX11, TX11, 10), (RX12, TX12, 44)]
def pcls (k : Int32) : Nat := if k = 1 then 8 else if k = 2 then 1 else if k = 3 then 3 else if k = 4 then 2 else 7
def layA (E : Ek) (q : Nat) (f : Nat → Int32) : List va_E := [
  .inr (0, [.ref (ad E 3), .ref (ad E (q + 1)), .ref (ad E (q + 2)), .ref (ad E (q + 3)), .ref (ad E (q + 4)), .ref (ad E (q + 5)), .ref (ad E (q + 6)), .ref (ad E (q + 7)), .int (f 8), .int (f 9)]),
  .inl (eA E 0, 4, .inl f),
  .inl (eA E 0, 4, .inl f),
  .inl (eA E 0, 2, .inl f),
  .inl (eA E 0, 4, .inl f),
  .inl (eA E 1, 4, .inl f),
  .inl (eA E 0, 6, .inl f),
  .inl (eA E 1, 6, .inl f)]
def layM (E : Ek) (f : Nat → Int32) (h : Int64) : va_E := .inr (12, [.ref (ad E 30), .int (f 1), .int (f 2), .int (f 3), .int (f 4), .int (f 5), .int (f 6), .int (f 7), .int (f 8), .int (f 9), .ref (ad E 31), .ref (ad E 32), .ref (ad E 33), .ref (ad E 34), .ref (ad E 35), .ref (ad E 36), .ref (ad E 37), .ref (ad E 38), .ref (ad E 39), .ref (ad E 40), .ref (ad E 41), .ref (ad E 42), .ref (ad E 43), .ref (ad E 44), .ref (ad E 45), .ref (ad E 46), .ref (ad E 47), .ref (ad E 48), .ref (ad E 49), .ref (ad E 50), .ref (ad E 51), .int (f 31), .ref (ad E 52), .int (f 33), .int (f 34), .int (f 35), .int (f 36), .ref (ad E 53), .ref (ad E 54), .ref (ad E 55), .ref (ad E 56), .ref (ad E 57), .ref (ad E 58), .long h])
def layL (E : Ek) (f : Nat → Int32) : List va_E := [
  .inr (11, [.ref (ad E 1), .ref (ad E 3), .ref (ad E 59), .ref (ad E 67), .ref (ad E 75), .ref (ad E 15), .ref (ad E 19), .ref (ad E 23), .int (f 8), .int (f 9)]),
  .inr (6, [.ref (ad E 2), .int (f 1), .int (f 2), .int (f 3), .int (f 4), .int (f 5), .int (f 6), .int (f 7), .int (f 8), .int (f 9), .int (f 10)]),
  .inl (eA E 0, 64, .inl f),
  .inr (4, [.int (f 0), .int (f 1), .int (f 2), .int (f 3), .ref (ad E 4), .ref (ad E 5), .ref (ad E 6), .ref (ad E 7), .ref (ad E 8), .ref (ad E 9), .ref (ad E 10)]),
  .inl (eA E 0, 6, .inl f),
  .inl (eA E 0, 6, .inl f),
  .inl (eA E 0, 6, .inl f),
  .inl (eA E 2, 4, .inr (.inr (.inr (.inr (fun j => some (ad E (11 + j))))))),
  .inl (eA E 0, 4, .inl f),
  .inl (eA E 0, 4, .inl f),
  .inl (eA E 0, 4, .inl f),
  .inr (pcls (f 0), []),
  .inr (pcls (f 0), []),
  .inr (pcls (f 0), []),
  .inr (pcls (f 0), []),
  .inr (10, [.ref (ad E 3), .ref (ad E 16), .ref (ad E 17), .ref (ad E 18)]),
  .inl (eA E 0, 6, .inl f),
  .inl (eA E 0, 6, .inl f),
  .inl (eA E 0, 6, .inl f),
  .inr (5, [.ref (ad E 3), .ref (ad E 20), .ref (ad E 21), .ref (ad E 22), .int (f 4)]),
  .inl (eA E 3, 5, .inr (.inr (.inr (.inr (fun j => some (ad E (83 + 8 * j))))))),
  .inl (eA E 0, 4, .inl f),
  .inl (eA E 0, 4, .inl f),
  .inr (9, [.ref (ad E 3), .ref (ad E 24), .ref (ad E 25), .ref (ad E 26), .ref (ad E 27), .ref (ad E 28), .int (f 6)]),
  .inl (eA E 0, 4, .inl f),
  .inl (eA E 0, 4, .inl f),
  .inl (eA E 0, 4, .inl f),
  .inl (eA E 0, 4, .inl f),
  .inl (eA E 0, 4, .inl f),
  .inr (0, []),
  .inl (eA E 0, 64, .inl f),
  .inl (eA E 0, 6, .inl f),
  .inl (eA E 0, 6, .inl f),
  .inl (eA E 0, 6, .inl f),
  .inl (eA E 0, 4, .inl f),
  .inl (eA E 0, 4, .inl f),
  .inl (eA E 0, 4, .inl f),
  .inl (eA E 0, 2, .inl f),
  .inl (eA E 0, 4, .inl f),
  .inl (eA E 0, 4, .inl f),
  .inl (eA E 0, 4, .inl f),
  .inl (eA E 0, 4, .inl f),
  .inl (eA E 0, 4, .inl f),
  .inl (eA E 0, 4, .inl f),
  .inl (eA E 0, 4, .inl f),
  .inl (eA E 0, 4, .inl f),
  .inl (eA E 0, 6, .inl f),
  .inl (eA E 0, 4, .inl f),
  .inl (eA E 0, 4, .inl f),
  .inl (eA E 0, 4, .inl f),
  .inl (eA E 0, 6, .inl f),
  .inl (eA E 0, 6, .inl f),
  .inl (eA E 0, 12, .inl f),
  .inl (eA E 0, 4, .inl f),
  .inl (eA E 0, 4, .inl f),
  .inl (eA E 0, 2, .inl f),
  .inl (eA E 0, 4, .inl f),
  .inl (eA E 0, 4, .inl f),
  .inl (eA E 0, 12, .inl f)]
def lay (E : Ek) (q : Nat) (f : Nat → Int32) (h : Int64) : va_E := bif Nat.beq q 29 then layM E f h else bif Nat.blt q 59 then (layL E f).getD q (.inr (0, [])) else (layA E q f).getD ((q - 59) % 8) (.inr (0, []))
def ws (E : Ek) (M : Mem) : va_W := (List.range 123).map (fun q => (ad E q, lay E q (M.1 q) M.2))
theorem ws_at {E : Ek} {M : Mem} {q : Nat} (h : q < 123) : (ws E M)[q]? = some (ad E q, lay E q (M.1 q) M.2) := by
  simp [ws, h]
theorem ws_set {E : Ek} {M M' : Mem} {q : Nat} {e : va_E} (h : q < 123) (he : e = lay E q (M'.1 q) M'.2) (ho : ∀ a, a ≠ q → lay E a (M'.1 a) M'.2 = lay E a (M.1 a) M.2) : (ws E M).set q (ad E q, e) = ws E M' := by
  subst he
  apply List.ext_getElem?
  intro i
  have hlen : (ws E M).length = 123 := by simp [ws]
  have hlen' : (ws E M').length = 123 := by simp [ws]
  by_cases hi : i < 123
  · by_cases hq : q = i
    · subst hq
      rw [List.getElem?_set_self (by rw [hlen]; exact hi), ws_at hi]
    · rw [List.getElem?_set_ne hq, ws_at hi, ws_at hi, ho i (fun z => hq z.symm)]
  · rw [List.getElem?_eq_none (by rw [List.length_set, hlen]; omega), List.getElem?_eq_none (by rw [hlen']; omega)]
theorem lay_h {E : Ek} {q : Nat} (h : q ≠ 29) (f : Nat → Int32) (a b : Int64) : lay E q f a = lay E q f b := by
  have : Nat.beq q 29 = false := by
    rcases hb : Nat.beq q 29 with _ | _
    · rfl
    · exact absurd (Nat.eq_of_beq_eq_true hb) h
  unfold lay
  rw [this]
  rfl
def Apart (E : Ek) : Prop := (∀ i j, i < 123 → j < 123 → ad E i = ad E j → i = j) ∧ ∀ i, i < 123 → eL E ≤ ad E i
theorem ws_D {E : Ek} {M : Mem} (h : Apart E) : va_D (frE E) (ws E M) := by
  have key : ∀ (k : Nat) (q : Nat × va_E), (ws E M)[k]? = some q → k < 123 ∧ q.1 = ad E k := by
    intro k q hk
    have hl : k < (ws E M).length := (List.getElem?_eq_some_iff.mp hk).1
    have hl2 : k < 123 := by simpa [ws] using hl
    rw [ws_at hl2] at hk
    cases hk
    exact ⟨hl2, rfl⟩
  refine ⟨fun i j p q hi hj hpq => ?_, fun k q hk => ?_⟩
  · obtain ⟨a1, a2⟩ := key i p hi
    obtain ⟨b1, b2⟩ := key j q hj
    exact h.1 i j a1 b1 (by rw [← a2, ← b2]; exact hpq)
  · obtain ⟨a1, a2⟩ := key k q hk
    rw [a2]
    exact h.2 k a1
/-! the words that any method may use -/
def gt : List Cond := lw_tbl.filter goodWord
theorem gt_good {w : Cond} (h : w ∈ gt) : goodWord w = true := (List.mem_filter.mp h).2
theorem gt_lw {w : Cond} (h : w ∈ gt) : w ∈ lw_tbl := (List.mem_filter.mp h).1
theorem gt_t {w : Cond} (h : w ∈ tables_1) (hg : goodWord w = true) : w ∈ gt := List.mem_filter.mpr ⟨List.mem_append_right _ h, hg⟩
theorem gt_s {w : Cond} (h : w ∈ k2_sels lw_privs) (hg : goodWord w = true) : w ∈ gt := List.mem_filter.mpr ⟨List.mem_append_left _ h, hg⟩
theorem tb_1 {w : Cond} (i : Nat) (h : tables_1_1[i]? = some w) : w ∈ tables_1 := List.mem_append_left _ (List.mem_of_getElem? h)
theorem tb_2 {w : Cond} (i : Nat) (h : tables_1_2[i]? = some w) : w ∈ tables_1 := List.mem_append_right _ (List.mem_append_left _ (List.mem_of_getElem? h))
theorem tb_3 {w : Cond} (i : Nat) (h : tables_1_3[i]? = some w) : w ∈ tables_1 := List.mem_append_right _ (List.mem_append_right _ (List.mem_append_left _ (List.mem_of_getElem? h)))
theorem tb_4 {w : Cond} (i : Nat) (h : tables_1_4[i]? = some w) : w ∈ tables_1 := List.mem_append_right _ (List.mem_append_right _ (List.mem_append_right _ (List.mem_append_left _ (List.mem_of_getElem? h))))
theorem tb_5 {w : Cond} (i : Nat) (h : tables_1_5[i]? = some w) : w ∈ tables_1 := List.mem_append_right _ (List.mem_append_right _ (List.mem_append_right _ (List.mem_append_right _ (List.mem_append_left _ (List.mem_of_getElem? h)))))
theorem tb_6 {w : Cond} (i : Nat) (h : tables_1_6[i]? = some w) : w ∈ tables_1 := List.mem_append_right _ (List.mem_append_right _ (List.mem_append_right _ (List.mem_append_right _ (List.mem_append_right _ (List.mem_of_getElem? h)))))
theorem pr_s {q : MethodName × Nat} (h : q ∈ lw_privs) : Cond.selects q.1.cls q.1 q.1 ∈ k2_sels lw_privs := List.mem_map.mpr ⟨q, h, rfl⟩
theorem u_in {C : String} {T : u_T} {N : Nat} (h : ∀ k, k < N → u_lay C T k ∈ gt) : ∀ w ∈ u_ws C T N, w ∈ gt := by
  intro w hw
  obtain ⟨k, hk, rfl⟩ := List.mem_map.mp hw
  exact h k (List.mem_range.mp hk)
def isN : Cond → Bool
  | .fieldLinkNest .. => true
  | .methodLinkNest .. => true
  | .castable .. => true
  | _ => false
theorem isN_warm {w : Cond} {s U : State} (hW : s.WarmedH U.vm) (h : isN w = true) (hw : va_Nw w s) : va_Nw w U := by
  cases w <;> first | exact va_Nw.warmF hW hw | exact va_Nw.warmM hW hw | exact va_Nw.warmC hW hw | (simp [isN] at h)
theorem isN_tab {w : Cond} (h : isN w = true) : w.onTables = true := by
  cases w <;> first | rfl | (simp [isN] at h)
abbrev gtys (E : Ek) : List (ClassId × FieldType) := [(eA E 0, .int), (eA E 1, .boolean), (eA E 2, .object RX7), (eA E 3, .object RX0)]
/-- who is no instance of what -/
def ncs : List (String × String) := [(RX7, RX8), (RX1, RX8), (RX3, RX8), (RX7, RX1), (RX8, RX1), (RX3, RX1), (RX2, RX1), (RX7, RX3), (RX8, RX3), (RX1, RX3), (RX2, RX3), (RX7, RX2), (RX8, RX2), (RX1, RX2), (RX3, RX2)]
/-- what the tables say, at any state of the run -/
def gE (E : Ek) (U : State) : Prop := va_K (eD E) classes (gtys E) U ∧ (∀ w ∈ tables_1, isN w = true → va_Nw w U) ∧ (∀ q ∈ ncs, va_Nc q.1 q.2 U) ∧ vk_R RX6 78 "oab" (eK E 0) U ∧ vk_R RX6 86 "prbhd" (eK E 1) U ∧ va_AO RX7 U ∧ va_AO RX0 U
theorem gE.warm {E : Ek} {s U : State} (hW : s.WarmedH U.vm) (h : gE E s) : gE E U :=
  ⟨va_K.moved hW.alike h.1, fun w hw hn => isN_warm hW hn (h.2.1 w hw hn), fun q hq => (h.2.2.1 q hq).moved hW.alike, h.2.2.2.1.warm hW, h.2.2.2.2.1.warm hW, h.2.2.2.2.2.1.moved hW.alike, h.2.2.2.2.2.2.moved hW.alike⟩
theorem gE.same {E : Ek} {s U : State} (hv : U.vm = s.vm) (h : gE E s) : gE E U :=
  ⟨va_K.moved (by rw [hv]; exact Vm.Alike.refl _) h.1, fun w hw hn => va_Nw.same (isN_tab hn) hv.symm (h.2.1 w hw hn), fun q hq => (h.2.2.1 q hq).moved (by rw [hv]; exact Vm.Alike.refl _), h.2.2.2.1.same hv, h.2.2.2.2.1.same hv, h.2.2.2.2.2.1.moved (by rw [hv]; exact Vm.Alike.refl _), h.2.2.2.2.2.2.moved (by rw [hv]; exact Vm.Alike.refl _)⟩
/-- what lies in the heap from before, and stays -/
def Str (E : Ek) (U : State) (H : Heap) : Prop := vk_S 2 [3, 5] [[111, 97, 98], [112, 114, 98, 104, 100]] (eK E) (eV E) (frE E) U H ∧ va_Z "java/lang/String" "COMPACT_STRINGS" "Z" (.int 1) (frE E) U H
theorem Str.moved {E : Ek} {u U : State} {H : Heap} (hvm : u.vm.Alike U.vm) (h : Str E u H) : Str E U H := ⟨h.1.moved hvm, h.2.moved hvm⟩
theorem Str.kept {E : Ek} {U : State} {H H1 : Heap} (h : Str E U H) (hq : ∀ a : Nat, a < H.size → ¬ frE E a → H1[a]? = H[a]?) : Str E U H1 := ⟨h.1.kept hq, h.2.kept hq⟩
/-- the world at a call -/
def Wd (E : Ek) (M : Mem) (U : State) : Prop := va_P (eD E) classes (ws E M) U.heap ∧ gE E U ∧ Apart E ∧ Str E U U.heap ∧ eL E ≤ U.heap.size
theorem Wd.calling {E : Ek} {M : Mem} (a : Array Value) (U : State) (g : JFrame) (mk : MethodId) (h : Wd E M U) : Wd E M (U.calling g mk a) :=
  ⟨h.1, gE.same (s := U) rfl h.2.1, h.2.2.1, Str.moved (u := U) (Vm.Alike.refl _) h.2.2.2.1, h.2.2.2.2⟩
