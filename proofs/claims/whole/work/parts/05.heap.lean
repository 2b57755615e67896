def zb (v : Int32) : Prop := v = 0 ∨ v = 1
def Aff (o : Nat) : Prop := ∃ a, a < 8 ∧ o = 59 + 8 * a
def Prs (q : Nat) : Prop := 11 ≤ q ∧ q < 15
/-- an int field, a field that is a cell, an array of ints, of bits -/
def FI (q ci k : Nat) : Prop := q < 123 ∧ ∀ (E : Ek) (f : Nat → Int32) (h : Int64), ∃ fs, lay E q f h = .inr (ci, fs) ∧ fs[k]? = some (.int (f k)) ∧ ∀ v, lay E q (upd f k v) h = .inr (ci, fs.set k (.int v)) ∧ k < fs.length
def FR (q ci k q' : Nat) : Prop := q < 123 ∧ ∀ (E : Ek) (f : Nat → Int32) (h : Int64), ∃ fs, lay E q f h = .inr (ci, fs) ∧ fs[k]? = some (.ref (ad E q'))
def IA (q n : Nat) : Prop := q < 123 ∧ ∀ (E : Ek) (f : Nat → Int32) (h : Int64), lay E q f h = .inl (eA E 0, n, .inl f)
def ZA (q n : Nat) : Prop := q < 123 ∧ ∀ (E : Ek) (f : Nat → Int32) (h : Int64), lay E q f h = .inl (eA E 1, n, .inl f)
def OC (q : Nat) (C : String) : Prop := q < 123 ∧ ∀ (E : Ek) (f : Nat → Int32) (h : Int64), ∃ ci fs r, lay E q f h = .inr (ci, fs) ∧ classes[ci]? = some r ∧ r.1 = C
theorem aff_c {P : Nat → Prop} (h0 : P 59) (h1 : P 67) (h2 : P 75) (h3 : P 83) (h4 : P 91) (h5 : P 99) (h6 : P 107) (h7 : P 115) {o : Nat} (h : Aff o) : P o := by
  obtain ⟨a, ha, rfl⟩ := h
  rcases (by omega : a = 0 ∨ a = 1 ∨ a = 2 ∨ a = 3 ∨ a = 4 ∨ a = 5 ∨ a = 6 ∨ a = 7) with rfl | rfl | rfl | rfl | rfl | rfl | rfl | rfl <;> assumption
theorem aff_59 : Aff 59 := ⟨0, by decide, rfl⟩
theorem aff_67 : Aff 67 := ⟨1, by decide, rfl⟩
theorem aff_75 : Aff 75 := ⟨2, by decide, rfl⟩
theorem aff_lev {n : Nat} (h : n < 5) : Aff (83 + 8 * n) := ⟨n + 3, by omega, by omega⟩
theorem vp_lt {i : Int32} {n : Nat} (h : vp_in i n) : i.toNatClampNeg < n := Nat.not_le.mp fun q => h (Or.inr q)
theorem prs_of {i : Int32} (h : vp_in i 4) : Prs (11 + i.toNatClampNeg) := ⟨by omega, by have := vp_lt h; omega⟩
section HRows
variable {E : Ek} {x : MC} {cc : ByteArray} {nL hm pc : Nat} {own : String} {M : Mem} {lv : List (Nat × Value)} {st : List Value} {A B : Prop}
variable {q ci k N idx n : Nat} {C : String} {T : u_T}
theorem g_getI (X : Cx E x cc nL own hm) (hF : FI q ci k) (hc : classes[ci]? = some (C, T, N)) (hin : ∀ w ∈ u_ws C T N, w ∈ gt) (hk : k < N) (hl : Cond.fieldLink own idx (T k).1 (T k).2.1 (T k).2.2.1 ∈ gt) (hd : decode cc pc = .ok (.getfield idx, 3)) (kk : G E x M (pc + 3) lv (.int (rd M q k) :: st)) : G E x M pc lv (.ref (ad E q) :: st) := fun H locs ls hP hS hL => by
  obtain ⟨fs, h1, h2, h3⟩ := hF.2 E (M.1 q) M.2
  exact va_get (D := eD E) (ci := ci) (v := .int (rd M q k)) X.ex X.cb X.hts hin X.ow X.ge.1 hP q ((ws_at hF.1).trans (by rw [h1])) hc k hk (X.hts _ hl) (fun _ h => h) h2 hd (kk H locs ls hP hS hL)
theorem g_getIN (X : Cx E x cc nL own hm) {host : String} (hF : FI q ci k) (hc : classes[ci]? = some (C, T, N)) (hin : ∀ w ∈ u_ws C T N, w ∈ gt) (hk : k < N) (hl : Cond.fieldLinkNest own idx (T k).1 (T k).2.1 (T k).2.2.1 host ∈ tables_1) (hd : decode cc pc = .ok (.getfield idx, 3)) (kk : G E x M (pc + 3) lv (.int (rd M q k) :: st)) : G E x M pc lv (.ref (ad E q) :: st) := fun H locs ls hP hS hL => by
  obtain ⟨fs, h1, h2, h3⟩ := hF.2 E (M.1 q) M.2
  exact va_getN (D := eD E) (ci := ci) (v := .int (rd M q k)) X.ex X.cb X.hts hin X.ow X.ge.1 hP q ((ws_at hF.1).trans (by rw [h1])) hc k hk (X.nest hl rfl) (fun _ h => h) h2 hd (kk H locs ls hP hS hL)
theorem g_getR (X : Cx E x cc nL own hm) {q' : Nat} (hF : FR q ci k q') (hc : classes[ci]? = some (C, T, N)) (hin : ∀ w ∈ u_ws C T N, w ∈ gt) (hk : k < N) (hl : Cond.fieldLink own idx (T k).1 (T k).2.1 (T k).2.2.1 ∈ gt) (hd : decode cc pc = .ok (.getfield idx, 3)) (kk : G E x M (pc + 3) lv (.ref (ad E q') :: st)) : G E x M pc lv (.ref (ad E q) :: st) := fun H locs ls hP hS hL => by
  obtain ⟨fs, h1, h2⟩ := hF.2 E (M.1 q) M.2
  exact va_get (D := eD E) (ci := ci) (v := .ref (ad E q')) X.ex X.cb X.hts hin X.ow X.ge.1 hP q ((ws_at hF.1).trans (by rw [h1])) hc k hk (X.hts _ hl) (fun _ h => h) h2 hd (kk H locs ls hP hS hL)
theorem g_getRN (X : Cx E x cc nL own hm) {q' : Nat} {host : String} (hF : FR q ci k q') (hc : classes[ci]? = some (C, T, N)) (hin : ∀ w ∈ u_ws C T N, w ∈ gt) (hk : k < N) (hl : Cond.fieldLinkNest own idx (T k).1 (T k).2.1 (T k).2.2.1 host ∈ tables_1) (hd : decode cc pc = .ok (.getfield idx, 3)) (kk : G E x M (pc + 3) lv (.ref (ad E q') :: st)) : G E x M pc lv (.ref (ad E q) :: st) := fun H locs ls hP hS hL => by
  obtain ⟨fs, h1, h2⟩ := hF.2 E (M.1 q) M.2
  exact va_getN (D := eD E) (ci := ci) (v := .ref (ad E q')) X.ex X.cb X.hts hin X.ow X.ge.1 hP q ((ws_at hF.1).trans (by rw [h1])) hc k hk (X.nest hl rfl) (fun _ h => h) h2 hd (kk H locs ls hP hS hL)
theorem ws_wr {v : Int32} {fs : List Value} (hq : q < 123) (h3 : lay E q (upd (M.1 q) k v) M.2 = .inr (ci, fs.set k (.int v))) : (ws E M).set q (ad E q, .inr (ci, fs.set k (.int v))) = ws E (wr M q k v) :=
  ws_set hq (by rw [wr_self]; exact h3.symm) (fun a ha => by rw [wr_ne ha]; rfl)
theorem g_putI (X : Cx E x cc nL own hm) {v : Int32} {ty : FieldType} {A : Mem → Prop} (hF : FI q ci k) (hc : classes[ci]? = some (C, T, N)) (hin : ∀ w ∈ u_ws C T N, w ∈ gt) (ty0 : Nat → FieldType) (hty : ∀ k, k < N → parseFieldDescriptor (T k).2.2.1 = some (ty0 k)) (hnm : ∀ a, a < N → ∀ b, b < N → a ≠ b → (T a).2.1 ≠ (T b).2.1) (hk : k < N) (hl : Cond.fieldLink own idx (T k).1 (T k).2.1 (T k).2.2.1 ∈ gt) (hfin : (T k).2.2.2 = false) (hds : parseFieldDescriptor (T k).2.2.1 = some ty) (hn : narrow ty (.int v) = .int v) (hf : fits ty (.int v) = true) (hd : decode cc pc = .ok (.putfield idx, 3)) (h : ∀ M1, M1 = wr M q k v → A M1) (kk : ∀ M1, A M1 → G E x M1 (pc + 3) lv st) : G E x M pc lv (.int v :: .ref (ad E q) :: st) := fun H locs ls hP hS hL => by
  obtain ⟨fs, h1, h2, h3⟩ := hF.2 E (M.1 q) M.2
  refine va_put (D := eD E) (ci := ci) (v := .int v) (ty := ty) X.ex X.cb X.hts hin ty0 hty hnm X.ow X.ge.1 hP (ws_D X.ap) hS q ((ws_at hF.1).trans (by rw [h1])) hc k hk (X.hts _ hl) (fun _ h => h) hfin hds hn hf (h3 v).2 hd (fun H1 locs1 hP1 hD1 hS1 => ?_)
  rw [ws_wr hF.1 (h3 v).1] at hP1
  exact kk _ (h _ rfl) H1 locs1 ls hP1 hS1 hL
theorem g_putIN (X : Cx E x cc nL own hm) {v : Int32} {ty : FieldType} {host : String} {A : Mem → Prop} (hF : FI q ci k) (hc : classes[ci]? = some (C, T, N)) (hin : ∀ w ∈ u_ws C T N, w ∈ gt) (ty0 : Nat → FieldType) (hty : ∀ k, k < N → parseFieldDescriptor (T k).2.2.1 = some (ty0 k)) (hnm : ∀ a, a < N → ∀ b, b < N → a ≠ b → (T a).2.1 ≠ (T b).2.1) (hk : k < N) (hl : Cond.fieldLinkNest own idx (T k).1 (T k).2.1 (T k).2.2.1 host ∈ tables_1) (hfin : (T k).2.2.2 = false) (hds : parseFieldDescriptor (T k).2.2.1 = some ty) (hn : narrow ty (.int v) = .int v) (hf : fits ty (.int v) = true) (hd : decode cc pc = .ok (.putfield idx, 3)) (h : ∀ M1, M1 = wr M q k v → A M1) (kk : ∀ M1, A M1 → G E x M1 (pc + 3) lv st) : G E x M pc lv (.int v :: .ref (ad E q) :: st) := fun H locs ls hP hS hL => by
  obtain ⟨fs, h1, h2, h3⟩ := hF.2 E (M.1 q) M.2
  refine va_putN (D := eD E) (ci := ci) (v := .int v) (ty := ty) X.ex X.cb X.hts hin ty0 hty hnm X.ow X.ge.1 hP (ws_D X.ap) hS q ((ws_at hF.1).trans (by rw [h1])) hc k hk (X.nest hl rfl) (fun _ h => h) hfin hds hn hf (h3 v).2 hd (fun H1 locs1 hP1 hD1 hS1 => ?_)
  rw [ws_wr hF.1 (h3 v).1] at hP1
  exact kk _ (h _ rfl) H1 locs1 ls hP1 hS1 hL
theorem zb_n {v : Int32} (h : zb v) : narrow .boolean (.int v) = .int v := by
  rcases h with rfl | rfl <;> rfl
theorem zb_f {v : Int32} (h : zb v) : fits .boolean (.int v) = true := by
  rcases h with rfl | rfl <;> rfl
/-- the model's one long -/
theorem g_getJ (X : Cx E x cc nL own hm) (hin : ∀ w ∈ u_ws RX12 TX12 44, w ∈ gt) (hl : Cond.fieldLink own idx (TX12 43).1 (TX12 43).2.1 (TX12 43).2.2.1 ∈ gt) (hd : decode cc pc = .ok (.getfield idx, 3)) (kk : G E x M (pc + 3) lv (.long M.2 :: st)) : G E x M pc lv (.ref (ad E 29) :: st) := fun H locs ls hP hS hL =>
  va_get (D := eD E) (ci := 12) (v := .long M.2) X.ex X.cb X.hts hin X.ow X.ge.1 hP 29 (ws_at (by decide)) rfl 43 (by decide) (X.hts _ hl) (fun _ h => h) rfl hd (kk H locs ls hP hS hL)
theorem g_putJ (X : Cx E x cc nL own hm) {v : Int64} {A : Mem → Prop} (hin : ∀ w ∈ u_ws RX12 TX12 44, w ∈ gt) (hl : Cond.fieldLink own idx (TX12 43).1 (TX12 43).2.1 (TX12 43).2.2.1 ∈ gt) (hd : decode cc pc = .ok (.putfield idx, 3)) (h : ∀ M1, M1 = wrH M v → A M1) (kk : ∀ M1, A M1 → G E x M1 (pc + 3) lv st) : G E x M pc lv (.long v :: .ref (ad E 29) :: st) := fun H locs ls hP hS hL => by
  refine va_put (D := eD E) (ci := 12) (C := RX12) (T := TX12) (N := 44) (v := .long v) (ty := .long) X.ex X.cb X.hts hin tyX12 tyX12_ok nmX12 X.ow X.ge.1 hP (ws_D X.ap) hS 29 (ws_at (by decide)) rfl 43 (by decide) (X.hts _ hl) (fun _ h => h) rfl (by decide +kernel) rfl rfl (Nat.le_of_ble_eq_true rfl) hd (fun H1 locs1 hP1 hD1 hS1 => ?_)
  have e : (ws E M).set 29 (ad E 29, lay E 29 ((wrH M v).1 29) (wrH M v).2) = ws E (wrH M v) := ws_set (by decide) rfl (fun a ha => lay_h ha _ _ _)
  exact kk _ (h _ rfl) H1 locs1 ls (by rw [← e]; exact hP1) hS1 hL
/-! arrays -/
theorem g_iald (X : Cx E x cc nL own hm) {i : Int32} (hI : IA q n) (hd : decode cc pc = .ok (.iaload, 1)) (h : vp_in i n ∧ A) (kk : A → G E x M (pc + 1) lv (.int (rd M q i.toNatClampNeg) :: st)) : G E x M pc lv (.int i :: .ref (ad E q) :: st) := fun H locs ls hP hS hL =>
  va_iald X.ex X.cb X.ge.1 hP q 0 (f := M.1 q) (n := n) (cA := eA E 0) ((ws_at hI.1).trans (by rw [hI.2])) rfl h.1 hd (kk h.2 H locs ls hP hS hL)
theorem g_zald (X : Cx E x cc nL own hm) {i : Int32} (hI : ZA q n) (hd : decode cc pc = .ok (.baload, 1)) (h : vp_in i n ∧ A) (kk : A → G E x M (pc + 1) lv (.int (rd M q i.toNatClampNeg) :: st)) : G E x M pc lv (.int i :: .ref (ad E q) :: st) := fun H locs ls hP hS hL =>
  va_zald X.ex X.cb X.ge.1 hP q 1 (f := M.1 q) (n := n) (cA := eA E 1) ((ws_at hI.1).trans (by rw [hI.2])) rfl h.1 hd (kk h.2 H locs ls hP hS hL)
theorem ws_wrA {i : Nat} {v : Int32} {cA : ClassId} (hq : q < 123) (h : lay E q (upd (M.1 q) i v) M.2 = .inl (cA, n, .inl (upd (M.1 q) i v))) : (ws E M).set q (ad E q, .inl (cA, n, .inl (upd (M.1 q) i v))) = ws E (wr M q i v) :=
  ws_set hq (by rw [wr_self]; exact h.symm) (fun a ha => by rw [wr_ne ha]; rfl)
theorem g_iast (X : Cx E x cc nL own hm) {i v : Int32} {A : Mem → Prop} (hI : IA q n) (hd : decode cc pc = .ok (.iastore, 1)) (h : vp_in i n ∧ ∀ M1, M1 = wr M q i.toNatClampNeg v → A M1) (kk : ∀ M1, A M1 → G E x M1 (pc + 1) lv st) : G E x M pc lv (.int v :: .int i :: .ref (ad E q) :: st) := fun H locs ls hP hS hL => by
  refine va_iast X.ex X.cb X.ge.1 hP (ws_D X.ap) hS q 0 (f := M.1 q) (n := n) (cA := eA E 0) ((ws_at hI.1).trans (by rw [hI.2])) rfl h.1 hd (fun H1 locs1 hP1 hD1 hS1 => ?_)
  rw [ws_wrA hI.1 (hI.2 E _ _)] at hP1
  exact kk _ (h.2 _ rfl) H1 locs1 ls hP1 hS1 hL
theorem g_zast (X : Cx E x cc nL own hm) {i v : Int32} {A : Mem → Prop} (hI : ZA q n) (hd : decode cc pc = .ok (.bastore, 1)) (h : vp_in i n ∧ ∀ M1, M1 = wr M q i.toNatClampNeg (vp_nar .boolean v) → A M1) (kk : ∀ M1, A M1 → G E x M1 (pc + 1) lv st) : G E x M pc lv (.int v :: .int i :: .ref (ad E q) :: st) := fun H locs ls hP hS hL => by
  refine va_zast X.ex X.cb X.ge.1 hP (ws_D X.ap) hS q 1 (f := M.1 q) (n := n) (cA := eA E 1) ((ws_at hI.1).trans (by rw [hI.2])) rfl h.1 hd (fun H1 locs1 hP1 hD1 hS1 => ?_)
  rw [ws_wrA hI.1 (hI.2 E _ _)] at hP1
  exact kk _ (h.2 _ rfl) H1 locs1 ls hP1 hS1 hL
theorem g_alen (X : Cx E x cc nL own hm) (hI : IA q n) (hd : decode cc pc = .ok (.arraylength, 1)) {v : Int32} (hv : Int32.ofNat n = v) (kk : G E x M (pc + 1) lv (.int v :: st)) : G E x M pc lv (.ref (ad E q) :: st) := fun H locs ls hP hS hL =>
  va_alen X.ex X.cb X.ge.1 hP q 0 (x := (n, .inl (M.1 q))) (cA := eA E 0) (ty := .int) ((ws_at hI.1).trans (by rw [hI.2])) rfl hv hd (kk H locs ls hP hS hL)
theorem g_pald (X : Cx E x cc nL own hm) {i : Int32} (hd : decode cc pc = .ok (.aaload, 1)) (h : vp_in i 4 ∧ A) (kk : vp_in i 4 → A → G E x M (pc + 1) lv (.ref (ad E (11 + i.toNatClampNeg)) :: st)) : G E x M pc lv (.int i :: .ref (ad E 7) :: st) := fun H locs ls hP hS hL =>
  va_aldq (C := RX7) X.ex X.cb X.ge.1 hP 7 2 (f := fun j => some (ad E (11 + j))) (n := 4) (cA := eA E 2) (ws_at (by decide)) rfl h.1 hd (kk h.1 h.2 H locs ls hP hS hL)
theorem g_lald (X : Cx E x cc nL own hm) {i : Int32} (hd : decode cc pc = .ok (.aaload, 1)) (h : vp_in i 5 ∧ A) (kk : vp_in i 5 → A → G E x M (pc + 1) lv (.ref (ad E (83 + 8 * i.toNatClampNeg)) :: st)) : G E x M pc lv (.int i :: .ref (ad E 20) :: st) := fun H locs ls hP hS hL =>
  va_aldq (C := RX0) X.ex X.cb X.ge.1 hP 20 3 (f := fun j => some (ad E (83 + 8 * j))) (n := 5) (cA := eA E 3) (ws_at (by decide)) rfl h.1 hd (kk h.1 h.2 H locs ls hP hS hL)
/-! ends -/
def wdP (E : Ek) (M : Mem) (t : State) : Prop := va_P (eD E) classes (ws E M) t.heap
def QI (E : Ek) (x : MC) (Post : Int32 → Mem → Prop) (rt : Option FieldType) : Prop := xQ x = MQ (xb x) (va_Qi Post (wdP E) (frE E)) (xa x) (xs x) (xk x) (xz x) (frE E) ∧ (xM x).sig.returnType = rt
def QL (E : Ek) (x : MC) (Post : Int64 → Mem → Prop) (rt : Option FieldType) : Prop := xQ x = MQ (xb x) (va_Ql Post (wdP E) (frE E)) (xa x) (xs x) (xk x) (xz x) (frE E) ∧ (xM x).sig.returnType = rt
def QV (E : Ek) (x : MC) (Post : Mem → Prop) (rt : Option FieldType) : Prop := xQ x = MQ (xb x) (va_Qv Post (wdP E) (frE E)) (xa x) (xs x) (xk x) (xz x) (frE E) ∧ (xM x).sig.returnType = rt
theorem g_iret (X : Cx E x cc nL own hm) {Post : Int32 → Mem → Prop} {v : Int32} (hQ : QI E x Post (some .int)) (hd : decode cc pc = .ok (.ireturn, 1)) (h : Post v M) : G E x M pc lv [.int v] := fun H locs ls hP hS hL => by
  rw [hQ.1]
  exact W.iret (v := v) X.ex X.cb hQ.2 (fun t ht hW => ⟨⟨v, M, rfl, h, by show va_P _ _ _ _; rw [ht]; exact hP⟩, hS.F ht⟩) hS.2.2 hd X.lk
theorem g_zret (X : Cx E x cc nL own hm) {Post : Int32 → Mem → Prop} {v : Int32} (hQ : QI E x Post (some .boolean)) (hd : decode cc pc = .ok (.ireturn, 1)) (h : zb v ∧ Post v M) : G E x M pc lv [.int v] := fun H locs ls hP hS hL => by
  rw [hQ.1]
  exact W.zret (v := v) (ty := .boolean) X.ex X.cb hQ.2 (zb_n h.1) (fun t ht hW => ⟨⟨v, M, rfl, h.2, by show va_P _ _ _ _; rw [ht]; exact hP⟩, hS.F ht⟩) hS.2.2 hd X.lk
theorem g_lret (X : Cx E x cc nL own hm) {Post : Int64 → Mem → Prop} {v : Int64} (hQ : QL E x Post (some .long)) (hd : decode cc pc = .ok (.lreturn, 1)) (h : Post v M) : G E x M pc lv [.long v] := fun H locs ls hP hS hL => by
  rw [hQ.1]
  exact W.lret (v := v) X.ex X.cb hQ.2 (fun t ht hW => ⟨⟨v, M, rfl, h, by show va_P _ _ _ _; rw [ht]; exact hP⟩, hS.F ht⟩) hS.2.2 hd X.lk
theorem g_vret (X : Cx E x cc nL own hm) {Post : Mem → Prop} (hQ : QV E x Post none) (hd : decode cc pc = .ok (.return_, 1)) (h : Post M) : G E x M pc lv [] := fun H locs ls hP hS hL => by
  rw [hQ.1]
  exact W.vret X.ex X.cb hQ.2 (fun t ht hW => ⟨⟨M, rfl, h, by show va_P _ _ _ _; rw [ht]; exact hP⟩, hS.F ht⟩) hS.2.2 hd X.lk
/-! contracts -/
def ctG (E : Ek) (l : Launch) (y : MethodName) (b : ByteArray) (mL : Nat) (rt : Option FieldType) (h : Nat) (As : List Value) (M : Mem) (Qc : Array Value → State → Outcome → State → Prop) : Prop := Met l y (.code y b mL rt :: gt) (rmh h) (va_Pc As (Wd E M)) Qc 0 0 (frE E)
abbrev ctI (E : Ek) (l : Launch) (y : MethodName) (b : ByteArray) (mL : Nat) (rt : Option FieldType) (h : Nat) (As : List Value) (M : Mem) (Post : Int32 → Mem → Prop) : Prop := ctG E l y b mL rt h As M (va_Qi Post (wdP E) (frE E))
abbrev ctL (E : Ek) (l : Launch) (y : MethodName) (b : ByteArray) (mL : Nat) (rt : Option FieldType) (h : Nat) (As : List Value) (M : Mem) (Post : Int64 → Mem → Prop) : Prop := ctG E l y b mL rt h As M (va_Ql Post (wdP E) (frE E))
abbrev ctV (E : Ek) (l : Launch) (y : MethodName) (b : ByteArray) (mL : Nat) (rt : Option FieldType) (h : Nat) (As : List Value) (M : Mem) (Post : Mem → Prop) : Prop := ctG E l y b mL rt h As M (va_Qv Post (wdP E) (frE E))
theorem ct_of {l : Launch} {y : MethodName} {b : ByteArray} {mL h : Nat} {rt : Option FieldType} {As : List Value} {Qc : Array Value → State → Outcome → State → Prop} (hy : plainName y.cls = true) (hlen : (lg_sl As).length ≤ mL) (body : ∀ x : MC, Cx E x b mL y.cls h → xQ x = MQ (xb x) Qc (xa x) (xs x) (xk x) (xz x) (frE E) ∧ (xM x).sig.returnType = rt → G E x M 0 (lv_args 0 As) []) : ctG E l y b mL rt h As M Qc := by
  refine Met.ofW (cc := b) (maxL := mL) (ret := rt) hy rfl ?_
  intro p e s m args below meth c s₁ B hml hv
  obtain ⟨rfl, hP, hE, hAp, hSt, hsz⟩ := hv
  have hts := atoms_spec (ws := .code y b mL rt :: gt) B.pre
  have hown : s.vm.findClass y.cls = some m.cls := findClass_of_methodNamed B.named
  have hl := lv_entry As (n := mL) hlen
  rw [lg_entry_eq]
  exact body (p, l, e, (headSpec (.code y b mL rt :: gt) (rmh h)).room, s, m, As.toArray, below, meth, c, MQ below Qc As.toArray s 0 0 (frE E), mL, 0, 0) ⟨B.exec, B.bytes, hml, rfl, hown, fun w hw => hts w (List.mem_cons_of_mem _ hw), B.notSynchronized, ⟨Nat.le_refl _, Nat.le_refl _⟩, ⟨Nat.zero_le _, Nat.zero_le _⟩, hE, hAp, hSt, hsz⟩ ⟨rfl, B.returns⟩ s.heap [] _ hP va_S.rf hl
/-! calls -/
def CW (y : MethodName) (b : ByteArray) (mL : Nat) (rt : Option FieldType) (n : Nat) : Prop := Cond.code y b mL rt ∈ gt ∧ Cond.initialized y.cls ∈ gt ∧ mL ≤ 21 ∧ (y.cls ≠ "java/lang/invoke/MethodHandle" ∧ y.cls ≠ "java/lang/invoke/VarHandle" ∧ (parseMethodDescriptor y.desc).map (fun d => d.parameters.length) = some n)
theorem gt_GI {y : MethodName} {b : ByteArray} {mL : Nat} {rt : Option FieldType} (h : Cond.code y b mL rt ∈ gt) : GoodIn gt (.code y b mL rt :: gt) := fun w hw => by
  rcases List.mem_cons.mp hw with rfl | hw
  · exact ⟨h, good_of_word (gt_good h)⟩
  · exact ⟨hw, good_of_word (gt_good hw)⟩
theorem Cx.room (X : Cx E x cc nL own hm) {hc mL : Nat} (hr : hc < hm) (hl : mL ≤ 21) : (rmh hc).frames + 1 ≤ (xR x).frames ∧ 8 + (mL + 11) + (rmh hc).locals ≤ (xR x).locals := by
  have h := X.rm
  refine ⟨?_, ?_⟩
  · show hc + 1 ≤ _; omega
  · show 8 + (mL + 11) + 40 * hc ≤ _; omega
theorem Cx.pre (X : Cx E x cc nL own hm) {H : Heap} {locs : List Loc} (hP : va_P (eD E) classes (ws E M) H) (hS : va_S (frE E) (xs x).heap H locs) {As : List Value} : PreS (xs x) H (va_Pc As (Wd E M)) As :=
  ⟨fun a U g mk h => ⟨h.1, Wd.calling a U g mk h.2⟩, fun U hU hW => ⟨rfl, by rw [hU]; exact hP, gE.warm hW X.ge, X.ap, by rw [hU]; exact (X.sr.moved hW.alike).kept hS.2.1, by rw [hU]; exact Nat.le_trans X.sz hS.1⟩⟩
theorem Cx.recv (X : Cx E x cc nL own hm) (hO : OC q C) {H : Heap} (hP : va_P (eD E) classes (ws E M) H) : ∃ cellB : Cell, H[ad E q]? = some cellB ∧ cellB.vm.isStatics = false ∧ (xs x).vm.findClass C = some cellB.cls := by
  obtain ⟨ci, fs, r, h1, h2, h3⟩ := hO.2 E (M.1 q) M.2
  have := va_recv X.ge.1 hP h2 ((ws_at hO.1).trans (by rw [h1]))
  rw [h3] at this
  exact this
section Runs
variable {y : MethodName} {b : ByteArray} {mL hc : Nat} {rt : Option FieldType} {As : List Value} {Qc : Array Value → State → Outcome → State → Prop}
theorem run_V (X : Cx E x cc nL own hm) (hM : ctG E (xl x) y b mL rt hc (.ref (ad E q) :: As) M Qc) (hw : CW y b mL rt n) (w1 : Cond.methodLink own idx y ∈ gt) (w2 : Cond.instanceMethod y ∈ gt) (w3 : Cond.selects C y y ∈ gt) (hO : OC q C) (hr : hc < hm) (hn : As.length = n) (hd : decode cc pc = .ok (.invokevirtual idx, 3)) (hW : (st.map fun v => v.category).sum ≤ 8) {H : Heap} {locs : List Loc} {ls : Array Slot} (hP : va_P (eD E) classes (ws E M) H) (hS : va_S (frE E) (xs x).heap H locs) (hL : lv_has ls (xn x) lv) :
    va_Run (xp x) (xl x) (xe x) (xR x) (xs x) (xm x) (xa x) (xb x) (xM x) (xc x) H locs (xk x) (xz x) 0 0 (F0 (xm x) pc ls (As.reverse ++ .ref (ad E q) :: st)) st (Qc (Value.ref (ad E q) :: As).toArray) (frE E) :=
  va_runV ⟨X.ex, X.cb, X.ml, X.ow, X.hts⟩ hM ⟨callB_of n X.hts (gt_GI hw.1) rfl rfl rfl (X.hts _ hw.2.1) (X.hts _ w1) hw.2.2.2 (X.room hr hw.2.2.1), X.hts _ w2, X.hts _ w3⟩ ⟨(X.pre hP hS).1, X.recv hO hP, (X.pre hP hS).2⟩ rfl hn (hL.1.trans X.nl) rfl (lv_room hW) hd ⟨X.kz.1, X.kz.2⟩
theorem run_VN (X : Cx E x cc nL own hm) {host : String} (hM : ctG E (xl x) y b mL rt hc (.ref (ad E q) :: As) M Qc) (hw : CW y b mL rt n) (w1 : Cond.methodLinkNest own idx y host ∈ tables_1) (w2 : Cond.instanceMethod y ∈ gt) (w3 : Cond.selects C y y ∈ gt) (hO : OC q C) (hr : hc < hm) (hn : As.length = n) (hd : decode cc pc = .ok (.invokevirtual idx, 3)) (hW : (st.map fun v => v.category).sum ≤ 8) {H : Heap} {locs : List Loc} {ls : Array Slot} (hP : va_P (eD E) classes (ws E M) H) (hS : va_S (frE E) (xs x).heap H locs) (hL : lv_has ls (xn x) lv) :
    va_Run (xp x) (xl x) (xe x) (xR x) (xs x) (xm x) (xa x) (xb x) (xM x) (xc x) H locs (xk x) (xz x) 0 0 (F0 (xm x) pc ls (As.reverse ++ .ref (ad E q) :: st)) st (Qc (Value.ref (ad E q) :: As).toArray) (frE E) :=
  va_runVN ⟨X.ex, X.cb, X.ml, X.ow, X.hts⟩ hM ⟨va_cnB n X.hts (gt_GI hw.1) rfl rfl rfl (X.ge.2.1 _ w1 rfl) (X.hts _ hw.2.1) hw.2.2.2 (X.room hr hw.2.2.1), X.hts _ w2, X.hts _ w3⟩ ⟨(X.pre hP hS).1, X.recv hO hP, (X.pre hP hS).2⟩ rfl hn (hL.1.trans X.nl) rfl (lv_room hW) hd ⟨X.kz.1, X.kz.2⟩
theorem run_S (X : Cx E x cc nL own hm) (hM : ctG E (xl x) y b mL rt hc As M Qc) (hw : CW y b mL rt n) (w1 : Cond.methodLink own idx y ∈ gt) (w2 : Cond.static y ∈ gt) (hr : hc < hm) (hn : As.length = n) (hd : decode cc pc = .ok (.invokestatic idx, 3)) (hW : (st.map fun v => v.category).sum ≤ 8) {H : Heap} {locs : List Loc} {ls : Array Slot} (hP : va_P (eD E) classes (ws E M) H) (hS : va_S (frE E) (xs x).heap H locs) (hL : lv_has ls (xn x) lv) :
    va_Run (xp x) (xl x) (xe x) (xR x) (xs x) (xm x) (xa x) (xb x) (xM x) (xc x) H locs (xk x) (xz x) 0 0 (F0 (xm x) pc ls (As.reverse ++ st)) st (Qc As.toArray) (frE E) :=
  va_runS ⟨X.ex, X.cb, X.ml, X.ow, X.hts⟩ hM ⟨callB_of n X.hts (gt_GI hw.1) rfl rfl rfl (X.hts _ hw.2.1) (X.hts _ w1) hw.2.2.2 (X.room hr hw.2.2.1), X.hts _ w2⟩ (X.pre hP hS) rfl hn (hL.1.trans X.nl) rfl (lv_room hW) hd ⟨X.kz.1, X.kz.2⟩
theorem k_I {st0 : List Value} {a : Array Value} {Post : Int32 → Mem → Prop} (hrun : ∀ {H : Heap} {locs : List Loc} {ls : Array Slot}, va_P (eD E) classes (ws E M) H → va_S (frE E) (xs x).heap H locs → lv_has ls (xn x) lv → va_Run (xp x) (xl x) (xe x) (xR x) (xs x) (xm x) (xa x) (xb x) (xM x) (xc x) H locs (xk x) (xz x) 0 0 (F0 (xm x) pc ls st0) st (va_Qi Post (wdP E) (frE E) a) (frE E)) (kk : ∀ r M1, Post r M1 → G E x M1 (pc + 3) lv (.int r :: st)) : G E x M pc lv st0 := fun H locs ls hP hS hL =>
  va_calli (hrun hP hS hL) hS (fun _ _ h => h) (fun _ h => h) (fun r u t H1 locs1 ht hvm hw hB hz1 hk1 hS1 => kk r u hw H1 locs1 ls (by rw [← ht]; exact hB) hS1 hL)
theorem k_L {st0 : List Value} {a : Array Value} {Post : Int64 → Mem → Prop} (hrun : ∀ {H : Heap} {locs : List Loc} {ls : Array Slot}, va_P (eD E) classes (ws E M) H → va_S (frE E) (xs x).heap H locs → lv_has ls (xn x) lv → va_Run (xp x) (xl x) (xe x) (xR x) (xs x) (xm x) (xa x) (xb x) (xM x) (xc x) H locs (xk x) (xz x) 0 0 (F0 (xm x) pc ls st0) st (va_Ql Post (wdP E) (frE E) a) (frE E)) (kk : ∀ r M1, Post r M1 → G E x M1 (pc + 3) lv (.long r :: st)) : G E x M pc lv st0 := fun H locs ls hP hS hL =>
  va_calll (hrun hP hS hL) hS (fun _ _ h => h) (fun _ h => h) (fun r u t H1 locs1 ht hvm hw hB hz1 hk1 hS1 => kk r u hw H1 locs1 ls (by rw [← ht]; exact hB) hS1 hL)
theorem k_V {st0 : List Value} {a : Array Value} {Post : Mem → Prop} (hrun : ∀ {H : Heap} {locs : List Loc} {ls : Array Slot}, va_P (eD E) classes (ws E M) H → va_S (frE E) (xs x).heap H locs → lv_has ls (xn x) lv → va_Run (xp x) (xl x) (xe x) (xR x) (xs x) (xm x) (xa x) (xb x) (xM x) (xc x) H locs (xk x) (xz x) 0 0 (F0 (xm x) pc ls st0) st (va_Qv Post (wdP E) (frE E) a) (frE E)) (kk : ∀ M1, Post M1 → G E x M1 (pc + 3) lv st) : G E x M pc lv st0 := fun H locs ls hP hS hL =>
  va_callv (hrun hP hS hL) hS (fun _ _ h => h) (fun _ h => h) (fun u t H1 locs1 ht hvm hw hB hz1 hk1 hS1 => kk u hw H1 locs1 ls (by rw [← ht]; exact hB) hS1 hL)
end Runs
end HRows
