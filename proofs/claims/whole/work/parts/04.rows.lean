/-- the machine's part of a judgement -/
abbrev MC : Type := Program × Launch × Jvm.Env × Room × State × MethodId × Array Value × List Frame × Method × Code × (State → Prop) × Nat × Nat × Nat
def xp (x : MC) : Program := x.1
def xl (x : MC) : Launch := x.2.1
def xe (x : MC) : Jvm.Env := x.2.2.1
def xR (x : MC) : Room := x.2.2.2.1
def xs (x : MC) : State := x.2.2.2.2.1
def xm (x : MC) : MethodId := x.2.2.2.2.2.1
def xa (x : MC) : Array Value := x.2.2.2.2.2.2.1
def xb (x : MC) : List Frame := x.2.2.2.2.2.2.2.1
def xM (x : MC) : Method := x.2.2.2.2.2.2.2.2.1
def xc (x : MC) : Code := x.2.2.2.2.2.2.2.2.2.1
def xQ (x : MC) : State → Prop := x.2.2.2.2.2.2.2.2.2.2.1
def xn (x : MC) : Nat := x.2.2.2.2.2.2.2.2.2.2.2.1
def xk (x : MC) : Nat := x.2.2.2.2.2.2.2.2.2.2.2.2.1
def xz (x : MC) : Nat := x.2.2.2.2.2.2.2.2.2.2.2.2.2
def rmh (h : Nat) : Room := { frames := h, cells := 0, slots := 0, locals := 40 * h }
/-- a method's standing facts -/
def Cx (E : Ek) (x : MC) (cc : ByteArray) (nL : Nat) (own : String) (hm : Nat) : Prop :=
  (xp x).tables.exec = Jvm.exec ∧ (xc x).code = cc ∧ (xc x).maxLocals = nL ∧ xn x = nL ∧ (xs x).vm.findClass own = some (xm x).cls ∧ (∀ w ∈ gt, w.before (xa x) (xs x) = true) ∧ (xM x).locks = false ∧ (hm ≤ (xR x).frames ∧ 40 * hm ≤ (xR x).locals) ∧ (xk x ≤ (xR x).cells ∧ xz x ≤ (xR x).slots) ∧ gE E (xs x) ∧ Apart E ∧ Str E (xs x) (xs x).heap ∧ eL E ≤ (xs x).heap.size
/-- from here it comes to the method's end -/
def G (E : Ek) (x : MC) (M : Mem) (pc : Nat) (lv : List (Nat × Value)) (st : List Value) : Prop :=
  ∀ (H : Heap) (locs : List Loc) (ls : Array Slot), va_P (eD E) classes (ws E M) H → va_S (frE E) (xs x).heap H locs → lv_has ls (xn x) lv → W (xp x) (xl x) (xe x) (xR x) (xs x) (xm x) (xa x) (xb x) (xM x) (xc x) H locs (xk x) (xz x) (xQ x) (F0 (xm x) pc ls st)
section GRows
variable {E : Ek} {x : MC} {cc : ByteArray} {nL hm pc : Nat} {own : String} {M : Mem} {lv : List (Nat × Value)} {st : List Value} {A B : Prop}
theorem Cx.ex (X : Cx E x cc nL own hm) : (xp x).tables.exec = Jvm.exec := X.1
theorem Cx.cb (X : Cx E x cc nL own hm) : (xc x).code = cc := X.2.1
theorem Cx.ml (X : Cx E x cc nL own hm) : (xc x).maxLocals = nL := X.2.2.1
theorem Cx.nl (X : Cx E x cc nL own hm) : xn x = nL := X.2.2.2.1
theorem Cx.ow (X : Cx E x cc nL own hm) : (xs x).vm.findClass own = some (xm x).cls := X.2.2.2.2.1
theorem Cx.hts (X : Cx E x cc nL own hm) : ∀ w ∈ gt, w.before (xa x) (xs x) = true := X.2.2.2.2.2.1
theorem Cx.lk (X : Cx E x cc nL own hm) : (xM x).locks = false := X.2.2.2.2.2.2.1
theorem Cx.rm (X : Cx E x cc nL own hm) : hm ≤ (xR x).frames ∧ 40 * hm ≤ (xR x).locals := X.2.2.2.2.2.2.2.1
theorem Cx.kz (X : Cx E x cc nL own hm) : xk x ≤ (xR x).cells ∧ xz x ≤ (xR x).slots := X.2.2.2.2.2.2.2.2.1
theorem Cx.ge (X : Cx E x cc nL own hm) : gE E (xs x) := X.2.2.2.2.2.2.2.2.2.1
theorem Cx.ap (X : Cx E x cc nL own hm) : Apart E := X.2.2.2.2.2.2.2.2.2.2.1
theorem Cx.sr (X : Cx E x cc nL own hm) : Str E (xs x) (xs x).heap := X.2.2.2.2.2.2.2.2.2.2.2.1
theorem Cx.sz (X : Cx E x cc nL own hm) : eL E ≤ (xs x).heap.size := X.2.2.2.2.2.2.2.2.2.2.2.2
theorem Cx.nest (X : Cx E x cc nL own hm) {w : Cond} (h : w ∈ tables_1) (hn : isN w = true) : w.before (xa x) (xs x) = true := va_Nw.use (isN_tab hn) (X.ge.2.1 w h hn)
/-! locals -/
def lins : List (Nat × Value) → Nat → Value → List (Nat × Value)
  | [], i, v => [(i, v)]
  | (j, w) :: t, i, v => bif Nat.blt i j then (i, v) :: (j, w) :: t else (j, w) :: lins t i v
def lset (l : List (Nat × Value)) (i : Nat) (v : Value) : List (Nat × Value) := lins (l.filter (fun q => !(q.1 == i))) i v
def lsto (l : List (Nat × Value)) (i : Nat) : Bool := l.all (fun q => !(q.1 + 1 == i && q.2.category == 2))
theorem lins_mem {q : Nat × Value} {i : Nat} {v : Value} : ∀ (l : List (Nat × Value)), q ∈ lins l i v → q = (i, v) ∨ q ∈ l
  | [], h => Or.inl (List.mem_singleton.mp h)
  | (j, w) :: t, h => by
    unfold lins at h
    cases hb : Nat.blt i j with
    | true => rw [hb] at h; exact List.mem_cons.mp h
    | false =>
      rw [hb] at h
      rcases List.mem_cons.mp h with h | h
      · exact Or.inr (List.mem_cons.mpr (Or.inl h))
      · rcases lins_mem t h with h | h
        · exact Or.inl h
        · exact Or.inr (List.mem_cons_of_mem _ h)
theorem lset_has {ls : Array Slot} {n i : Nat} {v : Value} {l : List (Nat × Value)} (hc : lsto l i = true) (h : lv_has ls n ((i, v) :: l.filter (fun q => !(q.1 == i) && !(q.1 + 1 == i && q.2.category == 2)))) : lv_has ls n (lset l i v) := by
  refine ⟨h.1, h.2.1, fun q hq => ?_⟩
  rcases lins_mem _ hq with e | hm
  · exact h.2.2 q (by rw [e]; exact List.mem_cons_self)
  · obtain ⟨h1, h2⟩ := List.mem_filter.mp hm
    refine h.2.2 q (List.mem_cons_of_mem _ (List.mem_filter.mpr ⟨h1, ?_⟩))
    have h3 := List.all_eq_true.mp hc q h1
    rw [h2, h3]; rfl
theorem lset_has2 {ls : Array Slot} {n i : Nat} {v : Value} {l : List (Nat × Value)} (hc : lsto l i = true) (hd : l.all (fun q => !(q.1 == i + 1)) = true) (h : lv_has ls n ((i, v) :: l.filter (fun q => !(q.1 == i) && (!(q.1 == i + 1) && !(q.1 + 1 == i && q.2.category == 2))))) : lv_has ls n (lset l i v) := by
  refine ⟨h.1, h.2.1, fun q hq => ?_⟩
  rcases lins_mem _ hq with e | hm
  · exact h.2.2 q (by rw [e]; exact List.mem_cons_self)
  · obtain ⟨h1, h2⟩ := List.mem_filter.mp hm
    refine h.2.2 q (List.mem_cons_of_mem _ (List.mem_filter.mpr ⟨h1, ?_⟩))
    have h3 := List.all_eq_true.mp hc q h1
    have h4 := List.all_eq_true.mp hd q h1
    rw [h2, h3, h4]; rfl
theorem g_sub (ks : List Nat) {lv' : List (Nat × Value)} (hl : lv_pick lv ks = lv') (kk : G E x M pc lv' st) : G E x M pc lv st := fun H locs ls hP hS hL => kk H locs ls hP hS (lv_sub hL ks hl)
theorem g_nm {e : Int32} {A : Int32 → Prop} (h : ∀ y, y = e → A y) (kk : ∀ y, A y → G E x M pc lv (.int y :: st)) : G E x M pc lv (.int e :: st) := kk e (h e rfl)
theorem g_nml {e : Int64} {A : Int64 → Prop} (h : ∀ y, y = e → A y) (kk : ∀ y, A y → G E x M pc lv (.long y :: st)) : G E x M pc lv (.long e :: st) := kk e (h e rfl)

theorem g_iconst (X : Cx E x cc nL own hm) {n : Int} {v : Int32} (hd : decode cc pc = .ok (.iconst n, 1)) (hv : Int32.ofInt n = v) (kk : G E x M (pc + 1) lv (.int v :: st)) : G E x M pc lv (st) := fun H locs ls hP hS hL => lv_iconst X.ex X.cb hd hv (kk H locs ls hP hS hL)
theorem g_bipush (X : Cx E x cc nL own hm) {n : Int} {v : Int32} (hd : decode cc pc = .ok (.bipush n, 2)) (hv : (Int8.ofInt n).toInt32 = v) (kk : G E x M (pc + 2) lv (.int v :: st)) : G E x M pc lv (st) := fun H locs ls hP hS hL => lv_bipush X.ex X.cb hd hv (kk H locs ls hP hS hL)
theorem g_sipush (X : Cx E x cc nL own hm) {n : Int} {v : Int32} (hd : decode cc pc = .ok (.sipush n, 3)) (hv : (Int16.ofInt n).toInt32 = v) (kk : G E x M (pc + 3) lv (.int v :: st)) : G E x M pc lv (st) := fun H locs ls hP hS hL => lv_sipush X.ex X.cb hd hv (kk H locs ls hP hS hL)
theorem g_lconst (X : Cx E x cc nL own hm) {n : Fin 2} {v : Int64} (hd : decode cc pc = .ok (.lconst n, 1)) (hv : Int64.ofNat (n : Nat) = v) (kk : G E x M (pc + 1) lv (.long v :: st)) : G E x M pc lv (st) := fun H locs ls hP hS hL => lv_lconst X.ex X.cb hd hv (kk H locs ls hP hS hL)
theorem g_iload_n (X : Cx E x cc nL own hm) {k : Fin 4} {i : Nat} {v : Int32} (hd : decode cc pc = .ok (.iload_n k, 1)) (hi : (k : Nat) = i) (j : Nat) (hl : lv[j]? = some (i, .int v)) (kk : G E x M (pc + 1) lv (.int v :: st)) : G E x M pc lv (st) := fun H locs ls hP hS hL => lv_iload_n X.ex X.cb hd hi (lv_at hL j hl) (kk H locs ls hP hS hL)
theorem g_iload (X : Cx E x cc nL own hm) {i : Nat} {v : Int32} (hd : decode cc pc = .ok (.iload i, 2)) (j : Nat) (hl : lv[j]? = some (i, .int v)) (kk : G E x M (pc + 2) lv (.int v :: st)) : G E x M pc lv (st) := fun H locs ls hP hS hL => lv_iload X.ex X.cb hd (lv_at hL j hl) (kk H locs ls hP hS hL)
theorem g_lload_n (X : Cx E x cc nL own hm) {k : Fin 4} {i : Nat} {v : Int64} (hd : decode cc pc = .ok (.lload_n k, 1)) (hi : (k : Nat) = i) (j : Nat) (hl : lv[j]? = some (i, .long v)) (kk : G E x M (pc + 1) lv (.long v :: st)) : G E x M pc lv (st) := fun H locs ls hP hS hL => lv_lload_n X.ex X.cb hd hi (lv_at hL j hl) (kk H locs ls hP hS hL)
theorem g_lload (X : Cx E x cc nL own hm) {i : Nat} {v : Int64} (hd : decode cc pc = .ok (.lload i, 2)) (j : Nat) (hl : lv[j]? = some (i, .long v)) (kk : G E x M (pc + 2) lv (.long v :: st)) : G E x M pc lv (st) := fun H locs ls hP hS hL => lv_lload X.ex X.cb hd (lv_at hL j hl) (kk H locs ls hP hS hL)
theorem g_aload_n (X : Cx E x cc nL own hm) {k : Fin 4} {i : Nat} {v : Nat} (hd : decode cc pc = .ok (.aload_n k, 1)) (hi : (k : Nat) = i) (j : Nat) (hl : lv[j]? = some (i, .ref v)) (kk : G E x M (pc + 1) lv (.ref v :: st)) : G E x M pc lv (st) := fun H locs ls hP hS hL => lv_aload_n X.ex X.cb hd hi (lv_at hL j hl) (kk H locs ls hP hS hL)
theorem g_aload (X : Cx E x cc nL own hm) {i : Nat} {v : Nat} (hd : decode cc pc = .ok (.aload i, 2)) (j : Nat) (hl : lv[j]? = some (i, .ref v)) (kk : G E x M (pc + 2) lv (.ref v :: st)) : G E x M pc lv (st) := fun H locs ls hP hS hL => lv_aload X.ex X.cb hd (lv_at hL j hl) (kk H locs ls hP hS hL)
theorem g_istore_n (X : Cx E x cc nL own hm) {k : Fin 4} {i : Nat} {v : Int32} {lv' : List (Nat × Value)} (hd : decode cc pc = .ok (.istore_n k, 1)) (hi : (k : Nat) = i) (hn : i < nL) (hc : lsto lv i = true) (hl : lset lv i (.int v) = lv') (kk : G E x M (pc + 1) lv' st) : G E x M pc lv (.int v :: st) := fun H locs ls hP hS hL => lv_istore_n X.ex X.cb hd hi hL (by rw [X.nl]; exact hn) rfl (fun ls' h => kk H locs ls' hP hS (hl ▸ lset_has hc h))
theorem g_istore (X : Cx E x cc nL own hm) {i : Nat} {v : Int32} {lv' : List (Nat × Value)} (hd : decode cc pc = .ok (.istore i, 2)) (hn : i < nL) (hc : lsto lv i = true) (hl : lset lv i (.int v) = lv') (kk : G E x M (pc + 2) lv' st) : G E x M pc lv (.int v :: st) := fun H locs ls hP hS hL => lv_istore X.ex X.cb hd hL (by rw [X.nl]; exact hn) rfl (fun ls' h => kk H locs ls' hP hS (hl ▸ lset_has hc h))
theorem g_astore_n (X : Cx E x cc nL own hm) {k : Fin 4} {i : Nat} {v : Nat} {lv' : List (Nat × Value)} (hd : decode cc pc = .ok (.astore_n k, 1)) (hi : (k : Nat) = i) (hn : i < nL) (hc : lsto lv i = true) (hl : lset lv i (.ref v) = lv') (kk : G E x M (pc + 1) lv' st) : G E x M pc lv (.ref v :: st) := fun H locs ls hP hS hL => lv_astore_n X.ex X.cb hd hi hL (by rw [X.nl]; exact hn) rfl (fun ls' h => kk H locs ls' hP hS (hl ▸ lset_has hc h))
theorem g_astore (X : Cx E x cc nL own hm) {i : Nat} {v : Nat} {lv' : List (Nat × Value)} (hd : decode cc pc = .ok (.astore i, 2)) (hn : i < nL) (hc : lsto lv i = true) (hl : lset lv i (.ref v) = lv') (kk : G E x M (pc + 2) lv' st) : G E x M pc lv (.ref v :: st) := fun H locs ls hP hS hL => lv_astore X.ex X.cb hd hL (by rw [X.nl]; exact hn) rfl (fun ls' h => kk H locs ls' hP hS (hl ▸ lset_has hc h))
theorem g_lstore_n (X : Cx E x cc nL own hm) {k : Fin 4} {i : Nat} {v : Int64} {lv' : List (Nat × Value)} (hd : decode cc pc = .ok (.lstore_n k, 1)) (hi : (k : Nat) = i) (hn : i + 1 < nL) (hc : lsto lv i = true) (hc2 : lv.all (fun q => !(q.1 == i + 1)) = true) (hl : lset lv i (.long v) = lv') (kk : G E x M (pc + 1) lv' st) : G E x M pc lv (.long v :: st) := fun H locs ls hP hS hL => lv_lstore_n X.ex X.cb hd hi hL (by rw [X.nl]; exact hn) rfl (fun ls' h => kk H locs ls' hP hS (hl ▸ lset_has2 hc hc2 h))
theorem g_lstore (X : Cx E x cc nL own hm) {i : Nat} {v : Int64} {lv' : List (Nat × Value)} (hd : decode cc pc = .ok (.lstore i, 2)) (hn : i + 1 < nL) (hc : lsto lv i = true) (hc2 : lv.all (fun q => !(q.1 == i + 1)) = true) (hl : lset lv i (.long v) = lv') (kk : G E x M (pc + 2) lv' st) : G E x M pc lv (.long v :: st) := fun H locs ls hP hS hL => lv_lstore X.ex X.cb hd hL (by rw [X.nl]; exact hn) rfl (fun ls' h => kk H locs ls' hP hS (hl ▸ lset_has2 hc hc2 h))
theorem g_iinc (X : Cx E x cc nL own hm) {i : Nat} {n : Int} {v : Int32} {w : Int32} {A : Int32 → Prop} (hd : decode cc pc = .ok (.iinc i n, 3)) (j : Nat) (hk : lv[j]? = some (i, .int v)) (hw : Int32.ofInt n = w) (hn : i < nL) (hc : lsto lv i = true) (lv' : Int32 → List (Nat × Value)) (hl : ∀ y, lset lv i (.int y) = lv' y) (h : ∀ y, y = v + w → A y) (kk : ∀ y, A y → G E x M (pc + 3) (lv' y) st) : G E x M pc lv st := fun H locs ls hP hS hL => lv_iinc (v := v + w) X.ex X.cb hd hL hk (by rw [hw]) (by rw [X.nl]; exact hn) rfl (fun ls' h' => kk (v + w) (h _ rfl) H locs ls' hP hS (hl (v + w) ▸ lset_has hc h'))
theorem g_iadd (X : Cx E x cc nL own hm) {a b : Int32} (hd : decode cc pc = .ok (.iadd, 1)) (kk : G E x M (pc + 1) lv (.int (a + b) :: st)) : G E x M pc lv (.int b :: .int a :: st) := fun H locs ls hP hS hL => lv_iadd X.ex X.cb hd (kk H locs ls hP hS hL)
theorem g_isub (X : Cx E x cc nL own hm) {a b : Int32} (hd : decode cc pc = .ok (.isub, 1)) (kk : G E x M (pc + 1) lv (.int (a - b) :: st)) : G E x M pc lv (.int b :: .int a :: st) := fun H locs ls hP hS hL => lv_isub X.ex X.cb hd (kk H locs ls hP hS hL)
theorem g_imul (X : Cx E x cc nL own hm) {a b : Int32} (hd : decode cc pc = .ok (.imul, 1)) (kk : G E x M (pc + 1) lv (.int (a * b) :: st)) : G E x M pc lv (.int b :: .int a :: st) := fun H locs ls hP hS hL => lv_imul X.ex X.cb hd (kk H locs ls hP hS hL)
theorem g_iand (X : Cx E x cc nL own hm) {a b : Int32} (hd : decode cc pc = .ok (.iand, 1)) (kk : G E x M (pc + 1) lv (.int (a &&& b) :: st)) : G E x M pc lv (.int b :: .int a :: st) := fun H locs ls hP hS hL => lv_iand X.ex X.cb hd (kk H locs ls hP hS hL)
theorem g_ior (X : Cx E x cc nL own hm) {a b : Int32} (hd : decode cc pc = .ok (.ior, 1)) (kk : G E x M (pc + 1) lv (.int (a ||| b) :: st)) : G E x M pc lv (.int b :: .int a :: st) := fun H locs ls hP hS hL => lv_ior X.ex X.cb hd (kk H locs ls hP hS hL)
theorem g_ixor (X : Cx E x cc nL own hm) {a b : Int32} (hd : decode cc pc = .ok (.ixor, 1)) (kk : G E x M (pc + 1) lv (.int (a ^^^ b) :: st)) : G E x M pc lv (.int b :: .int a :: st) := fun H locs ls hP hS hL => lv_ixor X.ex X.cb hd (kk H locs ls hP hS hL)
theorem g_ishl (X : Cx E x cc nL own hm) {a b : Int32} (hd : decode cc pc = .ok (.ishl, 1)) (kk : G E x M (pc + 1) lv (.int (a <<< (b &&& 31)) :: st)) : G E x M pc lv (.int b :: .int a :: st) := fun H locs ls hP hS hL => lv_ishl X.ex X.cb hd (kk H locs ls hP hS hL)
theorem g_ishr (X : Cx E x cc nL own hm) {a b : Int32} (hd : decode cc pc = .ok (.ishr, 1)) (kk : G E x M (pc + 1) lv (.int (a >>> (b &&& 31)) :: st)) : G E x M pc lv (.int b :: .int a :: st) := fun H locs ls hP hS hL => lv_ishr X.ex X.cb hd (kk H locs ls hP hS hL)
theorem g_ladd (X : Cx E x cc nL own hm) {a b : Int64} (hd : decode cc pc = .ok (.ladd, 1)) (kk : G E x M (pc + 1) lv (.long (a + b) :: st)) : G E x M pc lv (.long b :: .long a :: st) := fun H locs ls hP hS hL => lv_ladd X.ex X.cb hd (kk H locs ls hP hS hL)
theorem g_lmul (X : Cx E x cc nL own hm) {a b : Int64} (hd : decode cc pc = .ok (.lmul, 1)) (kk : G E x M (pc + 1) lv (.long (a * b) :: st)) : G E x M pc lv (.long b :: .long a :: st) := fun H locs ls hP hS hL => lv_lmul X.ex X.cb hd (kk H locs ls hP hS hL)
theorem g_land (X : Cx E x cc nL own hm) {a b : Int64} (hd : decode cc pc = .ok (.land, 1)) (kk : G E x M (pc + 1) lv (.long (a &&& b) :: st)) : G E x M pc lv (.long b :: .long a :: st) := fun H locs ls hP hS hL => lv_land X.ex X.cb hd (kk H locs ls hP hS hL)
theorem g_iushr (X : Cx E x cc nL own hm) {a b : Int32} (hd : decode cc pc = .ok (.iushr, 1)) (kk : G E x M (pc + 1) lv (.int (a.toUInt32 >>> (b.toUInt32 &&& Int32.toUInt32 31)).toInt32 :: st)) : G E x M pc lv (.int b :: .int a :: st) := fun H locs ls hP hS hL => lv_iushr X.ex X.cb hd rfl (kk H locs ls hP hS hL)
theorem g_i2b (X : Cx E x cc nL own hm) {a : Int32} (hd : decode cc pc = .ok (.i2b, 1)) (kk : G E x M (pc + 1) lv (.int a.toInt8.toInt32 :: st)) : G E x M pc lv (.int a :: st) := fun H locs ls hP hS hL => lv_i2b X.ex X.cb hd rfl (kk H locs ls hP hS hL)
theorem g_ineg (X : Cx E x cc nL own hm) {a : Int32} (hd : decode cc pc = .ok (.ineg, 1)) (kk : G E x M (pc + 1) lv (.int (-a) :: st)) : G E x M pc lv (.int a :: st) := fun H locs ls hP hS hL => lv_ineg X.ex X.cb hd (kk H locs ls hP hS hL)
theorem g_i2l (X : Cx E x cc nL own hm) {a : Int32} (hd : decode cc pc = .ok (.i2l, 1)) (kk : G E x M (pc + 1) lv (.long a.toInt64 :: st)) : G E x M pc lv (.int a :: st) := fun H locs ls hP hS hL => lv_i2l X.ex X.cb hd rfl (kk H locs ls hP hS hL)
theorem g_l2i (X : Cx E x cc nL own hm) {a : Int64} (hd : decode cc pc = .ok (.l2i, 1)) (kk : G E x M (pc + 1) lv (.int a.toInt32 :: st)) : G E x M pc lv (.long a :: st) := fun H locs ls hP hS hL => lv_l2i X.ex X.cb hd rfl (kk H locs ls hP hS hL)
theorem g_i2c (X : Cx E x cc nL own hm) {a : Int32} (hd : decode cc pc = .ok (.i2c, 1)) (kk : G E x M (pc + 1) lv (.int (a.toUInt32 % 65536).toInt32 :: st)) : G E x M pc lv (.int a :: st) := fun H locs ls hP hS hL => lv_i2c X.ex X.cb hd rfl (kk H locs ls hP hS hL)
theorem g_lcmp (X : Cx E x cc nL own hm) {a b : Int64} (hd : decode cc pc = .ok (.lcmp, 1)) (kk : G E x M (pc + 1) lv (.int (lg_cmp a b) :: st)) : G E x M pc lv (.long b :: .long a :: st) := fun H locs ls hP hS hL => W.lcmp X.ex X.cb hd (kk H locs ls hP hS hL)
theorem g_dup (X : Cx E x cc nL own hm) {v : Value} (hd : decode cc pc = .ok (.dup, 1)) (hv : v.category = 1) (kk : G E x M (pc + 1) lv (v :: v :: st)) : G E x M pc lv (v :: st) := fun H locs ls hP hS hL => lv_dup X.ex X.cb hd hv (kk H locs ls hP hS hL)
theorem g_dup_x1 (X : Cx E x cc nL own hm) {v w : Value} (hd : decode cc pc = .ok (.dup_x1, 1)) (hv : v.category = 1) (hw : w.category = 1) (kk : G E x M (pc + 1) lv (v :: w :: v :: st)) : G E x M pc lv (v :: w :: st) := fun H locs ls hP hS hL => lv_dup_x1 X.ex X.cb hd hv hw (kk H locs ls hP hS hL)
theorem g_dup2 (X : Cx E x cc nL own hm) {v w : Value} (hd : decode cc pc = .ok (.dup2, 1)) (hv : v.category = 1) (hw : w.category = 1) (kk : G E x M (pc + 1) lv (v :: w :: v :: w :: st)) : G E x M pc lv (v :: w :: st) := fun H locs ls hP hS hL => lv_dup2_11 X.ex X.cb hd hv hw (kk H locs ls hP hS hL)
theorem g_idiv (X : Cx E x cc nL own hm) {a b : Int32} (hd : decode cc pc = .ok (.idiv, 1)) (h : ¬ b = 0 ∧ A) (kk : A → G E x M (pc + 1) lv (.int (a / b) :: st)) : G E x M pc lv (.int b :: .int a :: st) := fun H locs ls hP hS hL => lv_idiv X.ex X.cb hd h.1 (kk h.2 H locs ls hP hS hL)
theorem g_irem (X : Cx E x cc nL own hm) {a b : Int32} (hd : decode cc pc = .ok (.irem, 1)) (h : ¬ b = 0 ∧ A) (kk : A → G E x M (pc + 1) lv (.int (a - a / b * b) :: st)) : G E x M pc lv (.int b :: .int a :: st) := fun H locs ls hP hS hL => lv_irem X.ex X.cb hd h.1 (kk h.2 H locs ls hP hS hL)
theorem g_goto (X : Cx E x cc nL own hm) {off : Int} {tgt : Nat} (hd : decode cc pc = .ok (.goto off, 3)) (ht : (pc : Int) + off = (tgt : Int)) (kk : G E x M tgt lv st) : G E x M pc lv st := fun H locs ls hP hS hL => lv_goto X.ex X.cb hd ht (kk H locs ls hP hS hL)
theorem g_ldc (X : Cx E x cc nL own hm) {index : Nat} {v : Int32} (hd : decode cc pc = .ok (.ldc index, 2)) (hw : Cond.constant own index v ∈ gt) (kk : G E x M (pc + 2) lv (.int v :: st)) : G E x M pc lv st := fun H locs ls hP hS hL => lv_ldc X.ex X.cb X.ow (X.hts _ hw) hd (kk H locs ls hP hS hL)
theorem g_ldcw (X : Cx E x cc nL own hm) {index : Nat} {v : Int32} (hd : decode cc pc = .ok (.ldc_w index, 3)) (hw : Cond.constant own index v ∈ gt) (kk : G E x M (pc + 3) lv (.int v :: st)) : G E x M pc lv st := fun H locs ls hP hS hL => lv_ldcw X.ex X.cb X.ow (X.hts _ hw) hd (kk H locs ls hP hS hL)
theorem g_ldc2 (X : Cx E x cc nL own hm) {index : Nat} {v : Int64} (hd : decode cc pc = .ok (.ldc2_w index, 3)) (hw : Cond.constantLong own index v ∈ gt) (kk : G E x M (pc + 3) lv (.long v :: st)) : G E x M pc lv st := fun H locs ls hP hS hL => lv_ldc2 X.ex X.cb X.ow (X.hts _ hw) hd (kk H locs ls hP hS hL)
theorem g_ifeq (X : Cx E x cc nL own hm) {v : Int32} {off : Int} {tgt : Nat} (hd : decode cc pc = .ok (.ifCond .eq off, 3)) (ht : (pc : Int) + off = (tgt : Int)) (h : (v = 0 → A) ∧ (¬ v = 0 → B)) (kt : A → G E x M tgt lv st) (kf : B → G E x M (pc + 3) lv st) : G E x M pc lv (.int v :: st) := fun H locs ls hP hS hL => lv_if_eq X.ex X.cb hd ht (fun c => kt (h.1 c) H locs ls hP hS hL) (fun c => kf (h.2 c) H locs ls hP hS hL)
theorem g_icmpeq (X : Cx E x cc nL own hm) {v w : Int32} {off : Int} {tgt : Nat} (hd : decode cc pc = .ok (.if_icmp .eq off, 3)) (ht : (pc : Int) + off = (tgt : Int)) (h : (v = w → A) ∧ (¬ v = w → B)) (kt : A → G E x M tgt lv st) (kf : B → G E x M (pc + 3) lv st) : G E x M pc lv (.int w :: .int v :: st) := fun H locs ls hP hS hL => lv_icmp_eq X.ex X.cb hd ht (fun c => kt (h.1 c) H locs ls hP hS hL) (fun c => kf (h.2 c) H locs ls hP hS hL)
theorem g_ifne (X : Cx E x cc nL own hm) {v : Int32} {off : Int} {tgt : Nat} (hd : decode cc pc = .ok (.ifCond .ne off, 3)) (ht : (pc : Int) + off = (tgt : Int)) (h : (¬ v = 0 → A) ∧ (v = 0 → B)) (kt : A → G E x M tgt lv st) (kf : B → G E x M (pc + 3) lv st) : G E x M pc lv (.int v :: st) := fun H locs ls hP hS hL => lv_if_ne X.ex X.cb hd ht (fun c => kt (h.1 c) H locs ls hP hS hL) (fun c => kf (h.2 c) H locs ls hP hS hL)
theorem g_icmpne (X : Cx E x cc nL own hm) {v w : Int32} {off : Int} {tgt : Nat} (hd : decode cc pc = .ok (.if_icmp .ne off, 3)) (ht : (pc : Int) + off = (tgt : Int)) (h : (¬ v = w → A) ∧ (v = w → B)) (kt : A → G E x M tgt lv st) (kf : B → G E x M (pc + 3) lv st) : G E x M pc lv (.int w :: .int v :: st) := fun H locs ls hP hS hL => lv_icmp_ne X.ex X.cb hd ht (fun c => kt (h.1 c) H locs ls hP hS hL) (fun c => kf (h.2 c) H locs ls hP hS hL)
theorem g_iflt (X : Cx E x cc nL own hm) {v : Int32} {off : Int} {tgt : Nat} (hd : decode cc pc = .ok (.ifCond .lt off, 3)) (ht : (pc : Int) + off = (tgt : Int)) (h : (v < 0 → A) ∧ (¬ v < 0 → B)) (kt : A → G E x M tgt lv st) (kf : B → G E x M (pc + 3) lv st) : G E x M pc lv (.int v :: st) := fun H locs ls hP hS hL => lv_if_lt X.ex X.cb hd ht (fun c => kt (h.1 c) H locs ls hP hS hL) (fun c => kf (h.2 c) H locs ls hP hS hL)
theorem g_icmplt (X : Cx E x cc nL own hm) {v w : Int32} {off : Int} {tgt : Nat} (hd : decode cc pc = .ok (.if_icmp .lt off, 3)) (ht : (pc : Int) + off = (tgt : Int)) (h : (v < w → A) ∧ (¬ v < w → B)) (kt : A → G E x M tgt lv st) (kf : B → G E x M (pc + 3) lv st) : G E x M pc lv (.int w :: .int v :: st) := fun H locs ls hP hS hL => lv_icmp_lt X.ex X.cb hd ht (fun c => kt (h.1 c) H locs ls hP hS hL) (fun c => kf (h.2 c) H locs ls hP hS hL)
theorem g_ifge (X : Cx E x cc nL own hm) {v : Int32} {off : Int} {tgt : Nat} (hd : decode cc pc = .ok (.ifCond .ge off, 3)) (ht : (pc : Int) + off = (tgt : Int)) (h : (0 ≤ v → A) ∧ (¬ 0 ≤ v → B)) (kt : A → G E x M tgt lv st) (kf : B → G E x M (pc + 3) lv st) : G E x M pc lv (.int v :: st) := fun H locs ls hP hS hL => lv_if_ge X.ex X.cb hd ht (fun c => kt (h.1 c) H locs ls hP hS hL) (fun c => kf (h.2 c) H locs ls hP hS hL)
theorem g_icmpge (X : Cx E x cc nL own hm) {v w : Int32} {off : Int} {tgt : Nat} (hd : decode cc pc = .ok (.if_icmp .ge off, 3)) (ht : (pc : Int) + off = (tgt : Int)) (h : (w ≤ v → A) ∧ (¬ w ≤ v → B)) (kt : A → G E x M tgt lv st) (kf : B → G E x M (pc + 3) lv st) : G E x M pc lv (.int w :: .int v :: st) := fun H locs ls hP hS hL => lv_icmp_ge X.ex X.cb hd ht (fun c => kt (h.1 c) H locs ls hP hS hL) (fun c => kf (h.2 c) H locs ls hP hS hL)
theorem g_ifgt (X : Cx E x cc nL own hm) {v : Int32} {off : Int} {tgt : Nat} (hd : decode cc pc = .ok (.ifCond .gt off, 3)) (ht : (pc : Int) + off = (tgt : Int)) (h : (0 < v → A) ∧ (¬ 0 < v → B)) (kt : A → G E x M tgt lv st) (kf : B → G E x M (pc + 3) lv st) : G E x M pc lv (.int v :: st) := fun H locs ls hP hS hL => lv_if_gt X.ex X.cb hd ht (fun c => kt (h.1 c) H locs ls hP hS hL) (fun c => kf (h.2 c) H locs ls hP hS hL)
theorem g_icmpgt (X : Cx E x cc nL own hm) {v w : Int32} {off : Int} {tgt : Nat} (hd : decode cc pc = .ok (.if_icmp .gt off, 3)) (ht : (pc : Int) + off = (tgt : Int)) (h : (w < v → A) ∧ (¬ w < v → B)) (kt : A → G E x M tgt lv st) (kf : B → G E x M (pc + 3) lv st) : G E x M pc lv (.int w :: .int v :: st) := fun H locs ls hP hS hL => lv_icmp_gt X.ex X.cb hd ht (fun c => kt (h.1 c) H locs ls hP hS hL) (fun c => kf (h.2 c) H locs ls hP hS hL)
theorem g_ifle (X : Cx E x cc nL own hm) {v : Int32} {off : Int} {tgt : Nat} (hd : decode cc pc = .ok (.ifCond .le off, 3)) (ht : (pc : Int) + off = (tgt : Int)) (h : (v ≤ 0 → A) ∧ (¬ v ≤ 0 → B)) (kt : A → G E x M tgt lv st) (kf : B → G E x M (pc + 3) lv st) : G E x M pc lv (.int v :: st) := fun H locs ls hP hS hL => lv_if_le X.ex X.cb hd ht (fun c => kt (h.1 c) H locs ls hP hS hL) (fun c => kf (h.2 c) H locs ls hP hS hL)
theorem g_icmple (X : Cx E x cc nL own hm) {v w : Int32} {off : Int} {tgt : Nat} (hd : decode cc pc = .ok (.if_icmp .le off, 3)) (ht : (pc : Int) + off = (tgt : Int)) (h : (v ≤ w → A) ∧ (¬ v ≤ w → B)) (kt : A → G E x M tgt lv st) (kf : B → G E x M (pc + 3) lv st) : G E x M pc lv (.int w :: .int v :: st) := fun H locs ls hP hS hL => lv_icmp_le X.ex X.cb hd ht (fun c => kt (h.1 c) H locs ls hP hS hL) (fun c => kf (h.2 c) H locs ls hP hS hL)
theorem g_tabO (X : Cx E x cc nL own hm) {dflt lo hi : Int} {offs : Array Int} {len : Nat} {v : Int32} {tgt : Nat} (hd : decode cc pc = .ok (.tableswitch dflt lo hi offs, len)) (hc : v.toInt < lo ∨ hi < v.toInt) (ht : (pc : Int) + dflt = (tgt : Int)) (kk : G E x M tgt lv st) : G E x M pc lv (.int v :: st) := fun H locs ls hP hS hL => lv_tableOut X.ex X.cb hd hc ht (kk H locs ls hP hS hL)
theorem g_tabI (X : Cx E x cc nL own hm) {dflt lo hi : Int} {offs : Array Int} {len : Nat} {v k : Int32} {off : Int} {tgt : Nat} (hd : decode cc pc = .ok (.tableswitch dflt lo hi offs, len)) (hv : v = k) (hc : (¬ k.toInt < lo ∧ ¬ hi < k.toInt) ∧ offs[(k.toInt - lo).toNat]? = some off) (ht : (pc : Int) + off = (tgt : Int)) (kk : G E x M tgt lv st) : G E x M pc lv (.int v :: st) := fun H locs ls hP hS hL => lv_tableIn X.ex X.cb hd (by rw [hv]; exact hc.1.1) (by rw [hv]; exact hc.1.2) (by rw [hv]; exact hc.2) ht (kk H locs ls hP hS hL)
theorem g_look (X : Cx E x cc nL own hm) {dflt : Int} {ps : Array (Int × Int)} {len : Nat} {v : Int32} {off : Int} {tgt : Nat} (hd : decode cc pc = .ok (.lookupswitch dflt ps, len)) (hp : (ps.toList.zip (ps.toList.drop 1)).all (fun (a, next) => a.1 < next.1) = true) (ho : Op.lookupswitch.offset ps.toList dflt v.toInt = off) (ht : (pc : Int) + off = (tgt : Int)) (kk : G E x M tgt lv st) : G E x M pc lv (.int v :: st) := fun H locs ls hP hS hL => lv_lookup X.ex X.cb hd hp ho ht (kk H locs ls hP hS hL)
theorem g_mmax (X : Cx E x cc nL own hm) {index : Nat} {a b : Int32} (hd : decode cc pc = .ok (.invokestatic index, 3)) (w1 : Cond.methodLink own index Lib.Math.max.name ∈ gt) (w2 : Cond.static Lib.Math.max.name ∈ gt) (w3 : Cond.initialized "java/lang/Math" ∈ gt) (w4 : Cond.code Lib.Math.max.name Lib.Math.max.code 2 (some .int) ∈ gt) (hh : 1 ≤ hm) (hr : (st.map fun v => v.category).sum ≤ 8) (kk : G E x M (pc + 3) lv (.int (if a < b then b else a) :: st)) : G E x M pc lv (.int b :: .int a :: st) := fun H locs ls hP hS hL => va_mmax X.ex X.cb (by rw [hL.1, X.nl]; exact X.ml) X.ow (X.hts _ w1) (X.hts _ w2) (X.hts _ w3) (X.hts _ w4) (Nat.le_trans hh X.rm.1) (by have := X.rm.2; omega) X.kz.1 X.kz.2 hd (kk H locs ls hP hS hL)
theorem g_mmin (X : Cx E x cc nL own hm) {index : Nat} {a b : Int32} (hd : decode cc pc = .ok (.invokestatic index, 3)) (w1 : Cond.methodLink own index Lib.Math.min.name ∈ gt) (w2 : Cond.static Lib.Math.min.name ∈ gt) (w3 : Cond.initialized "java/lang/Math" ∈ gt) (w4 : Cond.code Lib.Math.min.name Lib.Math.min.code 2 (some .int) ∈ gt) (hh : 1 ≤ hm) (hr : (st.map fun v => v.category).sum ≤ 8) (kk : G E x M (pc + 3) lv (.int (if b < a then b else a) :: st)) : G E x M pc lv (.int b :: .int a :: st) := fun H locs ls hP hS hL => va_mmin X.ex X.cb (by rw [hL.1, X.nl]; exact X.ml) X.ow (X.hts _ w1) (X.hts _ w2) (X.hts _ w3) (X.hts _ w4) (Nat.le_trans hh X.rm.1) (by have := X.rm.2; omega) X.kz.1 X.kz.2 hd (kk H locs ls hP hS hL)
end GRows
