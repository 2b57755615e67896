/-! making: worlds as lists of cells -/
def Kx (E : Ek) (x : MC) (cc : ByteArray) (nL : Nat) (own : String) (hm mc ms : Nat) : Prop :=
  (xp x).tables.exec = Jvm.exec ∧ (xc x).code = cc ∧ (xc x).maxLocals = nL ∧ xn x = nL ∧ (xs x).vm.findClass own = some (xm x).cls ∧ (∀ w ∈ gt, w.before (xa x) (xs x) = true) ∧ (xM x).locks = false ∧ (hm ≤ (xR x).frames ∧ 40 * hm ≤ (xR x).locals) ∧ (mc ≤ (xR x).cells ∧ ms ≤ (xR x).slots) ∧ gE E (xs x) ∧ Str E (xs x) (xs x).heap ∧ eL E ≤ (xs x).heap.size
/-- the cell a, and those that are new -/
def nwA (a sz : Nat) : Nat → Prop := fun q => q = a ∨ sz ≤ q
def KG (E : Ek) (A : Nat → Prop) (x : MC) (w : va_W) (k n pc : Nat) (lv : List (Nat × Value)) (st : List Value) : Prop :=
  ∀ (H : Heap) (locs : List Loc) (ls : Array Slot), va_P (eD E) classes w H → va_D A w → va_S A (xs x).heap H locs → lv_has ls (xn x) lv → W (xp x) (xl x) (xe x) (xR x) (xs x) (xm x) (xa x) (xb x) (xM x) (xc x) H locs k n (xQ x) (F0 (xm x) pc ls st)
section KRows
variable {E : Ek} {A : Nat → Prop} {x : MC} {cc : ByteArray} {nL hm mc ms k n pc : Nat} {own : String} {w : va_W} {lv : List (Nat × Value)} {st : List Value}
theorem Kx.ex (X : Kx E x cc nL own hm mc ms) : (xp x).tables.exec = Jvm.exec := X.1
theorem Kx.cb (X : Kx E x cc nL own hm mc ms) : (xc x).code = cc := X.2.1
theorem Kx.ml (X : Kx E x cc nL own hm mc ms) : (xc x).maxLocals = nL := X.2.2.1
theorem Kx.nl (X : Kx E x cc nL own hm mc ms) : xn x = nL := X.2.2.2.1
theorem Kx.ow (X : Kx E x cc nL own hm mc ms) : (xs x).vm.findClass own = some (xm x).cls := X.2.2.2.2.1
theorem Kx.hts (X : Kx E x cc nL own hm mc ms) : ∀ w ∈ gt, w.before (xa x) (xs x) = true := X.2.2.2.2.2.1
theorem Kx.lk (X : Kx E x cc nL own hm mc ms) : (xM x).locks = false := X.2.2.2.2.2.2.1
theorem Kx.rm (X : Kx E x cc nL own hm mc ms) : hm ≤ (xR x).frames ∧ 40 * hm ≤ (xR x).locals := X.2.2.2.2.2.2.2.1
theorem Kx.kz (X : Kx E x cc nL own hm mc ms) : mc ≤ (xR x).cells ∧ ms ≤ (xR x).slots := X.2.2.2.2.2.2.2.2.1
theorem Kx.ge (X : Kx E x cc nL own hm mc ms) : gE E (xs x) := X.2.2.2.2.2.2.2.2.2.1
theorem Kx.sr (X : Kx E x cc nL own hm mc ms) : Str E (xs x) (xs x).heap := X.2.2.2.2.2.2.2.2.2.2.1
theorem Kx.sz (X : Kx E x cc nL own hm mc ms) : eL E ≤ (xs x).heap.size := X.2.2.2.2.2.2.2.2.2.2.2
theorem kg_aload_n (X : Kx E x cc nL own hm mc ms) {i : Fin 4} {j a v : Nat} (hd : decode cc pc = .ok (.aload_n i, 1)) (hi : (i : Nat) = a) (hl : lv[j]? = some (a, .ref v)) (kk : KG E A x w k n (pc + 1) lv (.ref v :: st)) : KG E A x w k n pc lv st := fun H locs ls hP hD hS hL => lv_aload_n X.ex X.cb hd hi (lv_at hL j hl) (kk H locs ls hP hD hS hL)
theorem kg_iload_n (X : Kx E x cc nL own hm mc ms) {i : Fin 4} {j a : Nat} {v : Int32} (hd : decode cc pc = .ok (.iload_n i, 1)) (hi : (i : Nat) = a) (hl : lv[j]? = some (a, .int v)) (kk : KG E A x w k n (pc + 1) lv (.int v :: st)) : KG E A x w k n pc lv st := fun H locs ls hP hD hS hL => lv_iload_n X.ex X.cb hd hi (lv_at hL j hl) (kk H locs ls hP hD hS hL)
theorem kg_istore_n (X : Kx E x cc nL own hm mc ms) {i : Fin 4} {a : Nat} {v : Int32} {lv' : List (Nat × Value)} (hd : decode cc pc = .ok (.istore_n i, 1)) (hi : (i : Nat) = a) (hn : a < nL) (hc : lsto lv a = true) (hl : lset lv a (.int v) = lv') (kk : KG E A x w k n (pc + 1) lv' st) : KG E A x w k n pc lv (.int v :: st) := fun H locs ls hP hD hS hL => lv_istore_n X.ex X.cb hd hi hL (by rw [X.nl]; exact hn) rfl (fun ls' h => kk H locs ls' hP hD hS (hl ▸ lset_has hc h))
theorem kg_iinc (X : Kx E x cc nL own hm mc ms) {i j : Nat} {c : Int} {v u : Int32} {lv' : List (Nat × Value)} (hd : decode cc pc = .ok (.iinc i c, 3)) (hk : lv[j]? = some (i, .int v)) (hw : v + Int32.ofInt c = u) (hn : i < nL) (hc : lsto lv i = true) (hl : lset lv i (.int u) = lv') (kk : KG E A x w k n (pc + 3) lv' st) : KG E A x w k n pc lv st := fun H locs ls hP hD hS hL => lv_iinc (v := u) X.ex X.cb hd hL hk hw (by rw [X.nl]; exact hn) rfl (fun ls' h => kk H locs ls' hP hD hS (hl ▸ lset_has hc h))
theorem kg_iconst (X : Kx E x cc nL own hm mc ms) {c : Int} {v : Int32} (hd : decode cc pc = .ok (.iconst c, 1)) (hv : Int32.ofInt c = v) (kk : KG E A x w k n (pc + 1) lv (.int v :: st)) : KG E A x w k n pc lv st := fun H locs ls hP hD hS hL => lv_iconst X.ex X.cb hd hv (kk H locs ls hP hD hS hL)
theorem kg_bipush (X : Kx E x cc nL own hm mc ms) {c : Int} {v : Int32} (hd : decode cc pc = .ok (.bipush c, 2)) (hv : (Int8.ofInt c).toInt32 = v) (kk : KG E A x w k n (pc + 2) lv (.int v :: st)) : KG E A x w k n pc lv st := fun H locs ls hP hD hS hL => lv_bipush X.ex X.cb hd hv (kk H locs ls hP hD hS hL)
theorem kg_dup (X : Kx E x cc nL own hm mc ms) {v : Value} (hd : decode cc pc = .ok (.dup, 1)) (hv : v.category = 1) (kk : KG E A x w k n (pc + 1) lv (v :: v :: st)) : KG E A x w k n pc lv (v :: st) := fun H locs ls hP hD hS hL => lv_dup X.ex X.cb hd hv (kk H locs ls hP hD hS hL)
theorem kg_goto (X : Kx E x cc nL own hm mc ms) {off : Int} {tgt : Nat} (hd : decode cc pc = .ok (.goto off, 3)) (ht : (pc : Int) + off = (tgt : Int)) (kk : KG E A x w k n tgt lv st) : KG E A x w k n pc lv st := fun H locs ls hP hD hS hL => lv_goto X.ex X.cb hd ht (kk H locs ls hP hD hS hL)
theorem kg_geN (X : Kx E x cc nL own hm mc ms) {a b : Int32} {off : Int} {tgt : Nat} (hd : decode cc pc = .ok (.if_icmp .ge off, 3)) (ht : (pc : Int) + off = (tgt : Int)) (hc : ¬ b ≤ a) (kk : KG E A x w k n (pc + 3) lv st) : KG E A x w k n pc lv (.int b :: .int a :: st) := fun H locs ls hP hD hS hL => lv_icmp_ge X.ex X.cb hd ht (fun c => absurd c hc) (fun _ => kk H locs ls hP hD hS hL)
theorem kg_geY (X : Kx E x cc nL own hm mc ms) {a b : Int32} {off : Int} {tgt : Nat} (hd : decode cc pc = .ok (.if_icmp .ge off, 3)) (ht : (pc : Int) + off = (tgt : Int)) (hc : b ≤ a) (kk : KG E A x w k n tgt lv st) : KG E A x w k n pc lv (.int b :: .int a :: st) := fun H locs ls hP hD hS hL => lv_icmp_ge X.ex X.cb hd ht (fun _ => kk H locs ls hP hD hS hL) (fun c => absurd hc c)
theorem kg_gtN (X : Kx E x cc nL own hm mc ms) {a b : Int32} {off : Int} {tgt : Nat} (hd : decode cc pc = .ok (.if_icmp .gt off, 3)) (ht : (pc : Int) + off = (tgt : Int)) (hc : ¬ b < a) (kk : KG E A x w k n (pc + 3) lv st) : KG E A x w k n pc lv (.int b :: .int a :: st) := fun H locs ls hP hD hS hL => lv_icmp_gt X.ex X.cb hd ht (fun c => absurd c hc) (fun _ => kk H locs ls hP hD hS hL)
theorem kg_gtY (X : Kx E x cc nL own hm mc ms) {a b : Int32} {off : Int} {tgt : Nat} (hd : decode cc pc = .ok (.if_icmp .gt off, 3)) (ht : (pc : Int) + off = (tgt : Int)) (hc : b < a) (kk : KG E A x w k n tgt lv st) : KG E A x w k n pc lv (.int b :: .int a :: st) := fun H locs ls hP hD hS hL => lv_icmp_gt X.ex X.cb hd ht (fun _ => kk H locs ls hP hD hS hL) (fun c => absurd hc c)
theorem kg_tabI (X : Kx E x cc nL own hm mc ms) {dflt lo hi : Int} {offs : Array Int} {len : Nat} {v u : Int32} {off : Int} {tgt : Nat} (hd : decode cc pc = .ok (.tableswitch dflt lo hi offs, len)) (hv : v = u) (hc : (¬ u.toInt < lo ∧ ¬ hi < u.toInt) ∧ offs[(u.toInt - lo).toNat]? = some off) (ht : (pc : Int) + off = (tgt : Int)) (kk : KG E A x w k n tgt lv st) : KG E A x w k n pc lv (.int v :: st) := fun H locs ls hP hD hS hL => lv_tableIn X.ex X.cb hd (by rw [hv]; exact hc.1.1) (by rw [hv]; exact hc.1.2) (by rw [hv]; exact hc.2) ht (kk H locs ls hP hD hS hL)
theorem kg_tabO (X : Kx E x cc nL own hm mc ms) {dflt lo hi : Int} {offs : Array Int} {len : Nat} {v : Int32} {tgt : Nat} (hd : decode cc pc = .ok (.tableswitch dflt lo hi offs, len)) (hc : v.toInt < lo ∨ hi < v.toInt) (ht : (pc : Int) + dflt = (tgt : Int)) (kk : KG E A x w k n tgt lv st) : KG E A x w k n pc lv (.int v :: st) := fun H locs ls hP hD hS hL => lv_tableOut X.ex X.cb hd hc ht (kk H locs ls hP hD hS hL)
theorem kg_obj (X : Kx E x cc nL own hm mc ms) {idx a : Nat} (hd : decode cc pc = .ok (.invokespecial idx, 3)) (w1 : Cond.methodLink own idx Lib.objectInit ∈ gt) (w2 : Cond.instanceMethod Lib.objectInit ∈ gt) (w3 : Cond.code Lib.objectInit ⟨#[0xb1]⟩ 1 none ∈ gt) (hh : 1 ≤ hm) (hW : (st.map fun v => v.category).sum ≤ 8) (kk : KG E A x w k n (pc + 3) lv st) : KG E A x w k n pc lv (.ref a :: st) := fun H locs ls hP hD hS hL => by
  refine W.objInit (rest := st) X.ex X.cb X.ow (X.hts _ w1) (X.hts _ w2) (X.hts _ w3) rfl (by show ls.size = _; rw [hL.1, X.nl, X.ml]) rfl hd (Nat.le_trans hh X.rm.1) ?_ (kk H locs ls hP hD hS hL)
  have := X.rm.2
  show 2 * 0 + _ + 12 ≤ _
  omega
/-- a final field that is a reference, in a constructor -/
theorem kg_putF (X : Kx E x cc nL own hm mc ms) {idx N ci f a : Nat} {C : String} {T : u_T} {fs : List Value} {w' : va_W} {v : Value} {ty : FieldType} (hin : ∀ z ∈ u_ws C T N, z ∈ gt) (ty0 : Nat → FieldType) (hty : ∀ k, k < N → parseFieldDescriptor (T k).2.2.1 = some (ty0 k)) (hnm : ∀ a, a < N → ∀ b, b < N → a ≠ b → (T a).2.1 ≠ (T b).2.1) (he : w[0]? = some (a, .inr (ci, fs))) (hc : classes[ci]? = some (C, T, N)) (hk : f < N) (hl : Cond.fieldLink own idx (T f).1 (T f).2.1 (T f).2.2.1 ∈ gt) (hfin : (T f).2.2.2 = true) (hin2 : (xM x).name = "<init>") (hdecl : (T f).1 = own) (hds : parseFieldDescriptor (T f).2.2.1 = some ty) (hnw : narrow ty v = v) (hf : fits ty v = true) (hlen : f < fs.length) (hd : decode cc pc = .ok (.putfield idx, 3)) (hw : w.set 0 (a, .inr (ci, fs.set f v)) = w') (kk : KG E A x w' k n (pc + 3) lv st) : KG E A x w k n pc lv (v :: .ref a :: st) := fun H locs ls hP hD hS hL =>
  va_putF (D := eD E) (ci := ci) (v := v) (ty := ty) X.ex X.cb X.hts hin ty0 hty hnm X.ow X.ge.1 hP hD hS 0 he hc f hk (X.hts _ hl) (fun _ h => h) hfin hin2 hdecl hds hnw hf hlen hd (fun H1 locs1 hP1 hD1 hS1 => kk H1 locs1 ls (hw ▸ hP1) (hw ▸ hD1) hS1 hL)
theorem kg_put (X : Kx E x cc nL own hm mc ms) {idx N ci f a : Nat} {C : String} {T : u_T} {fs : List Value} {w' : va_W} {v : Value} {ty : FieldType} (hin : ∀ z ∈ u_ws C T N, z ∈ gt) (ty0 : Nat → FieldType) (hty : ∀ k, k < N → parseFieldDescriptor (T k).2.2.1 = some (ty0 k)) (hnm : ∀ a, a < N → ∀ b, b < N → a ≠ b → (T a).2.1 ≠ (T b).2.1) (he : w[0]? = some (a, .inr (ci, fs))) (hc : classes[ci]? = some (C, T, N)) (hk : f < N) (hl : Cond.fieldLink own idx (T f).1 (T f).2.1 (T f).2.2.1 ∈ gt) (hfin : (T f).2.2.2 = false) (hds : parseFieldDescriptor (T f).2.2.1 = some ty) (hnw : narrow ty v = v) (hf : fits ty v = true) (hlen : f < fs.length) (hd : decode cc pc = .ok (.putfield idx, 3)) (hw : w.set 0 (a, .inr (ci, fs.set f v)) = w') (kk : KG E A x w' k n (pc + 3) lv st) : KG E A x w k n pc lv (v :: .ref a :: st) := fun H locs ls hP hD hS hL =>
  va_put (D := eD E) (ci := ci) (v := v) (ty := ty) X.ex X.cb X.hts hin ty0 hty hnm X.ow X.ge.1 hP hD hS 0 he hc f hk (X.hts _ hl) (fun _ h => h) hfin hds hnw hf hlen hd (fun H1 locs1 hP1 hD1 hS1 => kk H1 locs1 ls (hw ▸ hP1) (hw ▸ hD1) hS1 hL)
theorem kg_get (X : Kx E x cc nL own hm mc ms) {idx N ci f a : Nat} {C : String} {T : u_T} {fs : List Value} {v : Value} (hin : ∀ z ∈ u_ws C T N, z ∈ gt) (he : w[0]? = some (a, .inr (ci, fs))) (hc : classes[ci]? = some (C, T, N)) (hk : f < N) (hl : Cond.fieldLink own idx (T f).1 (T f).2.1 (T f).2.2.1 ∈ gt) (hv : fs[f]? = some v) (hd : decode cc pc = .ok (.getfield idx, 3)) (kk : KG E A x w k n (pc + 3) lv (v :: st)) : KG E A x w k n pc lv (.ref a :: st) := fun H locs ls hP hD hS hL =>
  va_get (D := eD E) (ci := ci) (v := v) X.ex X.cb X.hts hin X.ow X.ge.1 hP 0 he hc f hk (X.hts _ hl) (fun _ h => h) hv hd (kk H locs ls hP hD hS hL)
/-- two classes of arrays with one name are one -/
theorem ty_same {D : va_G} {tys : List (ClassId × FieldType)} {U : State} {c1 c2 : ClassId} {ty : FieldType} (hK : va_K D classes tys U) {i j : Nat} (h1 : tys[i]? = some (c1, ty)) (h2 : tys[j]? = some (c2, ty)) : c1 = c2 := by
  have a := (hK.2 i _ h1).2
  have b := (hK.2 j _ h2).2
  cases ty with
  | object C =>
    obtain ⟨_, _, _, _, _, a4⟩ := a
    obtain ⟨_, _, _, _, _, b4⟩ := b
    exact Option.some.inj (a4.symm.trans b4)
  | _ => exact Option.some.inj (Eq.trans (Eq.symm a) b)
theorem kg_newI (X : Kx E x cc nL own hm mc ms) {sz : Int32} {N' : Nat} (hA : ∀ q, (xs x).heap.size ≤ q → A q) (w1 : Cond.arrayClass .int ∈ gt) (hn : ¬ sz < 0) (hN : sz.toNatClampNeg = N') (hb : N' ≤ 1000) (hc : k + 1 ≤ mc) (hs : n + N' ≤ ms) (hd : decode cc pc = .ok (.newarray .int, 2)) (kk : ∀ q, KG E A x (w ++ [(q, .inl (eA E 0, N', .inl (fun _ => 0)))]) (k + 1) (n + N') (pc + 2) lv (.ref q :: st)) : KG E A x w k n pc lv (.int sz :: st) := fun H locs ls hP hD hS hL =>
  va_newa (atype := .int) (a0 := (N', .inl (fun _ => 0))) (ty := .int) X.ex X.cb (X.hts _ w1) rfl X.ge.1 hP hD hS hA (fun _ => rfl) hn hN (by show N' * 4 ≤ _; omega) (Nat.le_trans hc X.kz.1) (Nat.le_trans hs X.kz.2) hd (fun q cA H1 hK1 hP1 hD1 hS1 => by
    have e : cA = eA E 0 := ty_same hK1 (i := 4) (j := 0) rfl rfl
    subst e
    exact kk q H1 locs ls hP1 hD1 hS1 hL)
theorem kg_newZ (X : Kx E x cc nL own hm mc ms) {sz : Int32} {N' : Nat} (hA : ∀ q, (xs x).heap.size ≤ q → A q) (w1 : Cond.arrayClass .boolean ∈ gt) (hn : ¬ sz < 0) (hN : sz.toNatClampNeg = N') (hb : N' ≤ 1000) (hc : k + 1 ≤ mc) (hs : n + N' ≤ ms) (hd : decode cc pc = .ok (.newarray .boolean, 2)) (kk : ∀ q, KG E A x (w ++ [(q, .inl (eA E 1, N', .inl (fun _ => 0)))]) (k + 1) (n + N') (pc + 2) lv (.ref q :: st)) : KG E A x w k n pc lv (.int sz :: st) := fun H locs ls hP hD hS hL =>
  va_newa (atype := .boolean) (a0 := (N', .inl (fun _ => 0))) (ty := .boolean) X.ex X.cb (X.hts _ w1) rfl X.ge.1 hP hD hS hA (fun _ => rfl) hn hN (by show N' * 1 ≤ _; omega) (Nat.le_trans hc X.kz.1) (Nat.le_trans hs X.kz.2) hd (fun q cA H1 hK1 hP1 hD1 hS1 => by
    have e : cA = eA E 1 := ty_same hK1 (i := 4) (j := 1) rfl rfl
    subst e
    exact kk q H1 locs ls hP1 hD1 hS1 hL)
theorem kg_newP (X : Kx E x cc nL own hm mc ms) {sz : Int32} {N' idx : Nat} (hA : ∀ q, (xs x).heap.size ≤ q → A q) (w1 : Cond.classLink own idx RX7 ∈ gt) (hn : ¬ sz < 0) (hN : sz.toNatClampNeg = N') (hb : N' ≤ 1000) (hc : k + 1 ≤ mc) (hs : n + N' ≤ ms) (hd : decode cc pc = .ok (.anewarray idx, 3)) (kk : ∀ q, KG E A x (w ++ [(q, .inl (eA E 2, N', .inr (.inr (.inr (.inr (fun _ => none))))))]) (k + 1) (n + N') (pc + 3) lv (.ref q :: st)) : KG E A x w k n pc lv (.int sz :: st) := fun H locs ls hP hD hS hL =>
  va_newq X.ex X.cb X.ow (X.hts _ w1) X.ge.2.2.2.2.2.1 X.ge.1 hP hD hS hA hn hN (by omega) (Nat.le_trans hc X.kz.1) (Nat.le_trans hs X.kz.2) hd (fun q cA H1 hK1 hP1 hD1 hS1 => by
    have e : cA = eA E 2 := ty_same hK1 (i := 4) (j := 2) rfl rfl
    subst e
    exact kk q H1 locs ls hP1 hD1 hS1 hL)
theorem kg_newF (X : Kx E x cc nL own hm mc ms) {sz : Int32} {N' idx : Nat} (hA : ∀ q, (xs x).heap.size ≤ q → A q) (w1 : Cond.classLink own idx RX0 ∈ gt) (hn : ¬ sz < 0) (hN : sz.toNatClampNeg = N') (hb : N' ≤ 1000) (hc : k + 1 ≤ mc) (hs : n + N' ≤ ms) (hd : decode cc pc = .ok (.anewarray idx, 3)) (kk : ∀ q, KG E A x (w ++ [(q, .inl (eA E 3, N', .inr (.inr (.inr (.inr (fun _ => none))))))]) (k + 1) (n + N') (pc + 3) lv (.ref q :: st)) : KG E A x w k n pc lv (.int sz :: st) := fun H locs ls hP hD hS hL =>
  va_newq X.ex X.cb X.ow (X.hts _ w1) X.ge.2.2.2.2.2.2 X.ge.1 hP hD hS hA hn hN (by omega) (Nat.le_trans hc X.kz.1) (Nat.le_trans hs X.kz.2) hd (fun q cA H1 hK1 hP1 hD1 hS1 => by
    have e : cA = eA E 3 := ty_same hK1 (i := 4) (j := 3) rfl rfl
    subst e
    exact kk q H1 locs ls hP1 hD1 hS1 hL)
theorem kg_new (X : Kx E x cc nL own hm mc ms) {idx N ci : Nat} {C : String} {T : u_T} {fs : List Value} (hA : ∀ q, (xs x).heap.size ≤ q → A q) (hin : ∀ z ∈ u_ws C T N, z ∈ gt) (ty0 : Nat → FieldType) (hty : ∀ k, k < N → parseFieldDescriptor (T k).2.2.1 = some (ty0 k)) (w1 : Cond.classLink own idx C ∈ gt) (w2 : Cond.instantiable C N ∈ gt) (w3 : Cond.initialized C ∈ gt) (hc : classes[ci]? = some (C, T, N)) (hfs : ∀ j, j < N → defaultValue (ty0 j) = vp_V fs j) (hk : k + 1 ≤ mc) (hs : n + N ≤ ms) (hd : decode cc pc = .ok (.new idx, 3)) (kk : ∀ q, KG E A x (w ++ [(q, .inr (ci, fs))]) (k + 1) (n + N) (pc + 3) lv (.ref q :: st)) : KG E A x w k n pc lv st := fun H locs ls hP hD hS hL =>
  va_new (c0 := xc x) X.ex X.cb X.hts hin ty0 hty X.ow (X.hts _ w1) (X.hts _ w2) (X.hts _ w3) X.ge.1 hP hD hS hA hc hfs (Nat.le_trans hk X.kz.1) (Nat.le_trans hs X.kz.2) hd (fun q H1 hP1 hD1 hS1 => kk q H1 locs ls hP1 hD1 hS1 hL)
theorem kg_aast (X : Kx E x cc nL own hm mc ms) {q0 t0 qk ci N' v a : Nat} {i : Int32} {cA : ClassId} {r : vw_C} {vs : List Value} {f : Nat → Option Nat} {w' : va_W} (ha : w[q0]? = some (a, .inl (cA, N', .inr (.inr (.inr (.inr f)))))) (ht : (gtys E)[t0]? = some (cA, .object r.1)) (hv : w[qk]? = some (v, .inr (ci, vs))) (hc : classes[ci]? = some r) (hin : vp_in i N') (hd : decode cc pc = .ok (.aastore, 1)) (hw : w.set q0 (a, .inl (cA, N', .inr (.inr (.inr (.inr (va_up f i.toNatClampNeg (some v))))))) = w') (kk : KG E A x w' k n (pc + 1) lv st) : KG E A x w k n pc lv (.ref v :: .int i :: .ref a :: st) := fun H locs ls hP hD hS hL =>
  va_astq X.ex X.cb X.ge.1 hP hD hS q0 t0 qk ci ha ht hv hc hin hd (fun H1 locs1 hP1 hD1 hS1 => kk H1 locs1 ls (hw ▸ hP1) (hw ▸ hD1) hS1 hL)
/-! contracts of constructors -/
def rmk (h mc ms : Nat) : Room := { frames := h, cells := mc, slots := ms, locals := 40 * h }
/-- what is so at the start of a making -/
def Wk (E : Ek) (sz : Nat) (w : va_W) (U : State) : Prop := U.heap.size = sz ∧ va_P (eD E) classes w U.heap ∧ va_D (fun _ => True) w ∧ gE E U ∧ Str E U U.heap ∧ eL E ≤ U.heap.size ∧ ∀ (k : Nat) (q : Nat × va_E), w[k]? = some q → eL E ≤ q.1
theorem Wk.calling {sz : Nat} (a : Array Value) (U : State) (g : JFrame) (mk : MethodId) (h : Wk E sz w U) : Wk E sz w (U.calling g mk a) :=
  ⟨h.1, h.2.1, h.2.2.1, gE.same (s := U) rfl h.2.2.2.1, Str.moved (u := U) (Vm.Alike.refl _) h.2.2.2.2.1, h.2.2.2.2.2⟩
def wkB (E : Ek) (A : Nat → Prop) (w : va_W) (t : State) : Prop := va_P (eD E) classes w t.heap ∧ va_D A w
/-- a constructor: its one cell w becomes u, with what is new -/
def ctK (E : Ek) (l : Launch) (y : MethodName) (b : ByteArray) (mL h mc ms a : Nat) (As : List Value) (e : va_E) (post : va_W → Prop) : Prop :=
  ∀ sz, Met l y (.code y b mL none :: gt) (rmk h mc ms) (va_Pc (.ref a :: As) (Wk E sz [(a, e)])) (va_Qv post (wkB E (nwA a sz)) (nwA a sz)) mc ms (nwA a sz)
def QK (E : Ek) (A : Nat → Prop) (x : MC) (post : va_W → Prop) (mc ms : Nat) : Prop := xQ x = MQ (xb x) (va_Qv post (wkB E A) A) (xa x) (xs x) mc ms A ∧ (xM x).sig.returnType = none ∧ (xM x).name = "<init>" ∧ (∀ q, (xs x).heap.size ≤ q → A q) ∧ ∀ q, A q → eL E ≤ q
theorem ctK_of {l : Launch} {y : MethodName} {b : ByteArray} {mL h a : Nat} {As : List Value} {e : va_E} {post : va_W → Prop} (hy : plainName y.cls = true) (hyn : y.name = "<init>") (hlen : (lg_sl (.ref a :: As)).length ≤ mL) (body : ∀ (x : MC) (A : Nat → Prop), Kx E x b mL y.cls h mc ms → QK E A x post mc ms → KG E A x [(a, e)] 0 0 0 (lv_args 0 (.ref a :: As)) []) : ctK E l y b mL h mc ms a As e post := by
  intro sz
  refine Met.ofW (cc := b) (maxL := mL) (ret := none) hy rfl ?_
  intro p e0 s m args below meth c s₁ B hml hv
  obtain ⟨rfl, hsz, hP, hD, hE, hSt, hlo, hal⟩ := hv
  have hts := atoms_spec (ws := .code y b mL none :: gt) B.pre
  have hown : s.vm.findClass y.cls = some m.cls := findClass_of_methodNamed B.named
  have hnm : meth.name = "<init>" := ((name_of_methodNamed B.named B.method).1).trans hyn
  have hl := lv_entry (.ref a :: As) (n := mL) hlen
  rw [lg_entry_eq]
  subst hsz
  exact body (p, l, e0, (headSpec (.code y b mL none :: gt) (rmk h mc ms)).room, s, m, (Value.ref a :: As).toArray, below, meth, c, MQ below (va_Qv post (wkB E (nwA a s.heap.size)) (nwA a s.heap.size)) (Value.ref a :: As).toArray s mc ms (nwA a s.heap.size), mL, 0, 0) (nwA a s.heap.size) ⟨B.exec, B.bytes, hml, rfl, hown, fun w hw => hts w (List.mem_cons_of_mem _ hw), B.notSynchronized, ⟨Nat.le_refl _, Nat.le_refl _⟩, ⟨Nat.le_refl _, Nat.le_refl _⟩, hE, hSt, hlo⟩ ⟨rfl, B.returns, hnm, fun q h => Or.inr h, fun q h => by
    rcases h with h | h
    · rw [h]; exact hal 0 (a, e) rfl
    · exact Nat.le_trans hlo h⟩ s.heap [] _ hP ⟨hD.1, fun k q hk => by
    have hk0 : k < 1 := (List.getElem?_eq_some_iff.mp hk).1
    have : k = 0 := by omega
    subst this
    cases hk
    exact Or.inl rfl⟩ va_S.rf hl
theorem kg_vret (X : Kx E x cc nL own hm mc ms) {post : va_W → Prop} (hQ : QK E A x post mc ms) (hk : k ≤ mc) (hn : n ≤ ms) (hd : decode cc pc = .ok (.return_, 1)) (h : post w) : KG E A x w k n pc lv [] := fun H locs ls hP hD hS hL => by
  rw [hQ.1]
  refine W.widen hk hn ?_
  exact W.vret X.ex X.cb hQ.2.1 (fun t ht hW => ⟨⟨w, rfl, h, by show va_P _ _ _ _; rw [ht]; exact hP, hD⟩, hS.F ht⟩) hS.2.2 hd X.lk
theorem wk_join {wr w1 : va_W} {a : Nat} {e : va_E} {D : va_G} {H H1 : Heap} (hP : va_P D classes (wr ++ [(a, e)]) H) (hD : va_D A (wr ++ [(a, e)])) (hA : ∀ q, H.size ≤ q → A q) (hk : ∀ q : Nat, q < H.size → ¬ nwA a H.size q → H1[q]? = H[q]?) (hP1 : va_P D classes w1 H1) (hD1 : va_D (nwA a H.size) w1) : va_P D classes (wr ++ w1) H1 ∧ va_D A (wr ++ w1) := by
  have hat : (wr ++ [(a, e)])[wr.length]? = some (a, e) := by simp
  have hl : ∀ (k : Nat) (q : Nat × va_E), wr[k]? = some q → k < wr.length ∧ (wr ++ [(a, e)])[k]? = some q := fun k q h => by
    have := (List.getElem?_eq_some_iff.mp h).1
    exact ⟨this, by rw [List.getElem?_append_left this]; exact h⟩
  have hap : ∀ (k : Nat) (q : Nat × va_E), wr[k]? = some q → q.1 < H.size ∧ ¬ nwA a H.size q.1 := fun k q h => by
    obtain ⟨h1, h2⟩ := hl k q h
    have hlt := (hP k q h2).lt
    refine ⟨hlt, fun z => ?_⟩
    rcases z with z | z
    · exact absurd (hD.1 k wr.length q (a, e) h2 hat z) (by omega)
    · omega
  have hAa : A a := hD.2 _ _ hat
  refine ⟨va_P.app (fun k q h => (hP k q (hl k q h).2).kept (hk q.1 (hap k q h).1 (hap k q h).2)) hP1, va_D.app ⟨fun i j p q hi hj e => hD.1 i j p q (hl i p hi).2 (hl j q hj).2 e, fun k q h => hD.2 k q (hl k q h).2⟩ (hD1.weaken (fun k q _ z => ?_)) (fun i j p q hp hq hpq => ?_)⟩
  · rcases z with z | z
    · rw [z]; exact hAa
    · exact hA _ z
  · exact (hap i p hp).2 (by rw [hpq]; exact hD1.2 j q hq)
theorem kg_initR (X : Kx E x cc nL own hm mc ms) {a : Nat} {e : va_E} {mc1 ms1 : Nat} {As : List Value} {post : va_W → Prop} {wr : va_W} (hAl : ∀ q, (xs x).heap.size ≤ q → A q) (hlo : ∀ q, A q → eL E ≤ q)
    (hrun : ∀ {H : Heap} {locs : List Loc} {ls : Array Slot}, va_P (eD E) classes [(a, e)] H → va_D (fun _ => True) [(a, e)] → eL E ≤ a → va_S A (xs x).heap H locs → (∀ q : Nat, q < (xs x).heap.size → ¬ frE E q → H[q]? = (xs x).heap[q]?) → lv_has ls (xn x) lv → va_Run (xp x) (xl x) (xe x) (xR x) (xs x) (xm x) (xa x) (xb x) (xM x) (xc x) H locs k n mc1 ms1 (F0 (xm x) pc ls (As.reverse ++ .ref a :: st)) st (va_Qv post (wkB E (nwA a H.size)) (nwA a H.size) (Value.ref a :: As).toArray) (nwA a H.size))
    (kk : ∀ u, post u → KG E A x (wr ++ u) (k + mc1) (n + ms1) (pc + 3) lv st) : KG E A x (wr ++ [(a, e)]) k n pc lv (As.reverse ++ .ref a :: st) := fun H locs ls hP hD hS hL => by
  have hat : (wr ++ [(a, e)])[wr.length]? = some (a, e) := by simp
  have hPc : va_P (eD E) classes [(a, e)] H := fun k q h => by
    have hk0 : k < 1 := (List.getElem?_eq_some_iff.mp h).1
    have : k = 0 := by omega
    subst this
    cases h
    exact hP _ _ hat
  have hDc : va_D (fun _ => True) [(a, e)] := ⟨fun i j p q hi hj _ => by
    have h1 : i < 1 := (List.getElem?_eq_some_iff.mp hi).1
    have h2 : j < 1 := (List.getElem?_eq_some_iff.mp hj).1
    omega, fun _ _ _ => trivial⟩
  have hAa : A a := hD.2 _ _ hat
  have hf : ∀ q, nwA a H.size q → A q := fun q z => by
    rcases z with z | z
    · rw [z]; exact hAa
    · exact hAl q (Nat.le_trans hS.1 z)
  refine va_callv (hrun hPc hDc (hlo _ hAa) hS (fun q h1 h2 => hS.2.1 q h1 (fun z => h2 (hlo q z))) hL) hS (fun q _ h => hf q h) hf (fun u t H1 locs1 ht hvm hw hB hz1 hk1 hS1 => ?_)
  obtain ⟨hP1, hD1⟩ := hB
  rw [ht] at hP1
  obtain ⟨g1, g2⟩ := wk_join hP hD (fun q h => hAl q (Nat.le_trans hS.1 h)) hk1 hP1 hD1
  exact kk u hw H1 locs1 ls g1 g2 hS1 hL
theorem Kx.pre (X : Kx E x cc nL own hm mc ms) {a : Nat} {e : va_E} {As : List Value} {H : Heap} {locs : List Loc} (hP : va_P (eD E) classes [(a, e)] H) (hD : va_D (fun _ => True) [(a, e)]) (ha : eL E ≤ a) (hS : va_S A (xs x).heap H locs) (hs : ∀ q : Nat, q < (xs x).heap.size → ¬ frE E q → H[q]? = (xs x).heap[q]?) : PreS (xs x) H (va_Pc (.ref a :: As) (Wk E H.size [(a, e)])) (.ref a :: As) :=
  ⟨fun v U g mk h => ⟨h.1, Wk.calling v U g mk h.2⟩, fun U hU hW => ⟨rfl, by rw [hU], by rw [hU]; exact hP, hD, gE.warm hW X.ge, by rw [hU]; exact (X.sr.moved hW.alike).kept hs, by rw [hU]; exact Nat.le_trans X.sz hS.1, fun k q h => by
    have hk0 : k < 1 := (List.getElem?_eq_some_iff.mp h).1
    have : k = 0 := by omega
    subst this
    cases h
    exact ha⟩⟩
/-- what a call of a constructor needs of the tables -/
def CK (y : MethodName) (b : ByteArray) (mL : Nat) (n : Nat) : Prop := Cond.code y b mL none ∈ gt ∧ Cond.initialized y.cls ∈ gt ∧ mL ≤ 21 ∧ (y.cls ≠ "java/lang/invoke/MethodHandle" ∧ y.cls ≠ "java/lang/invoke/VarHandle" ∧ (parseMethodDescriptor y.desc).map (fun d => d.parameters.length) = some n) ∧ y.name = "<init>" ∧ Cond.instanceMethod y ∈ gt
theorem Kx.room (X : Kx E x cc nL own hm mc ms) {hc mL mc1 ms1 : Nat} (hr : hc < hm) (hl : mL ≤ 21) : (rmk hc mc1 ms1).frames + 1 ≤ (xR x).frames ∧ 8 + (mL + 11) + (rmk hc mc1 ms1).locals ≤ (xR x).locals := by
  have h := X.rm
  refine ⟨?_, ?_⟩
  · show hc + 1 ≤ _; omega
  · show 8 + (mL + 11) + 40 * hc ≤ _; omega
theorem kg_init (X : Kx E x cc nL own hm mc ms) {a idx nA : Nat} {e : va_E} {y : MethodName} {b : ByteArray} {mL hc mc1 ms1 : Nat} {As : List Value} {post : va_W → Prop} {wr : va_W} (hAl : ∀ q, (xs x).heap.size ≤ q → A q) (hlo : ∀ q, A q → eL E ≤ q) (hM : ctK E (xl x) y b mL hc mc1 ms1 a As e post) (hw : CK y b mL nA) (w1 : Cond.methodLink own idx y ∈ gt) (hr : hc < hm) (hn : As.length = nA) (hd : decode cc pc = .ok (.invokespecial idx, 3)) (hW : (st.map fun v => v.category).sum ≤ 8) (hk : k + mc1 ≤ mc) (hs : n + ms1 ≤ ms) (kk : ∀ u, post u → KG E A x (wr ++ u) (k + mc1) (n + ms1) (pc + 3) lv st) : KG E A x (wr ++ [(a, e)]) k n pc lv (As.reverse ++ .ref a :: st) :=
  kg_initR X hAl hlo (fun {H locs ls} hP hD ha hS hs' hL => va_runI ⟨X.ex, X.cb, X.ml, X.ow, X.hts⟩ (hM H.size) ⟨callB_of nA X.hts (gt_GI hw.1) rfl rfl rfl (X.hts _ hw.2.1) (X.hts _ w1) hw.2.2.2.1 (X.room hr hw.2.2.1), hw.2.2.2.2.1, X.hts _ hw.2.2.2.2.2⟩ (X.pre hP hD ha hS hs') rfl hn (hL.1.trans X.nl) rfl (lv_room hW) hd ⟨Nat.le_trans hk X.kz.1, Nat.le_trans hs X.kz.2⟩) kk
theorem kg_initN (X : Kx E x cc nL own hm mc ms) {host : String} {a idx nA : Nat} {e : va_E} {y : MethodName} {b : ByteArray} {mL hc mc1 ms1 : Nat} {As : List Value} {post : va_W → Prop} {wr : va_W} (hAl : ∀ q, (xs x).heap.size ≤ q → A q) (hlo : ∀ q, A q → eL E ≤ q) (hM : ctK E (xl x) y b mL hc mc1 ms1 a As e post) (hw : CK y b mL nA) (w1 : Cond.methodLinkNest own idx y host ∈ tables_1) (hr : hc < hm) (hn : As.length = nA) (hd : decode cc pc = .ok (.invokespecial idx, 3)) (hW : (st.map fun v => v.category).sum ≤ 8) (hk : k + mc1 ≤ mc) (hs : n + ms1 ≤ ms) (kk : ∀ u, post u → KG E A x (wr ++ u) (k + mc1) (n + ms1) (pc + 3) lv st) : KG E A x (wr ++ [(a, e)]) k n pc lv (As.reverse ++ .ref a :: st) :=
  kg_initR X hAl hlo (fun {H locs ls} hP hD ha hS hs' hL => va_runIN ⟨X.ex, X.cb, X.ml, X.ow, X.hts⟩ (hM H.size) ⟨va_cnB nA X.hts (gt_GI hw.1) rfl rfl rfl (X.ge.2.1 _ w1 rfl) (X.hts _ hw.2.1) hw.2.2.2.1 (X.room hr hw.2.2.1), hw.2.2.2.2.1, X.hts _ hw.2.2.2.2.2⟩ (X.pre hP hD ha hS hs') rfl hn (hL.1.trans X.nl) rfl (lv_room hW) hd ⟨Nat.le_trans hk X.kz.1, Nat.le_trans hs X.kz.2⟩) kk
end KRows
