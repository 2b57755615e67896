theorem cw_X1_number : CW yX1_number cX1_number 1 (some .int) 0 := ⟨m132, m133, Nat.le_of_ble_eq_true rfl, by decide +kernel⟩
def wp_X1_number (Post : Int32 → Mem → Prop) (M : Mem) : Prop :=
 Post 2 M
theorem w_X1_number (E : Ek) (l : Launch) {p0 : Nat} (hp : Prs p0) {M : Mem} {Post : Int32 → Mem → Prop} (h : wp_X1_number Post M ) : ctI E l yX1_number cX1_number 1 (some .int) 1 [.ref (ad E p0)] M Post := by
  refine ct_of (by decide) (Nat.le_of_ble_eq_true rfl) (fun x X hQ => ?_)
  change G E x M 0 [(0, .ref (ad E p0))] []
  refine g_iconst (v := 2) X dX1_number_0 (by decide) ?_
  exact g_iret X hQ dX1_number_1 h
theorem cw_X2_number : CW yX2_number cX2_number 1 (some .int) 0 := ⟨m134, m135, Nat.le_of_ble_eq_true rfl, by decide +kernel⟩
def wp_X2_number (Post : Int32 → Mem → Prop) (M : Mem) : Prop :=
 Post 4 M
theorem w_X2_number (E : Ek) (l : Launch) {p0 : Nat} (hp : Prs p0) {M : Mem} {Post : Int32 → Mem → Prop} (h : wp_X2_number Post M ) : ctI E l yX2_number cX2_number 1 (some .int) 1 [.ref (ad E p0)] M Post := by
  refine ct_of (by decide) (Nat.le_of_ble_eq_true rfl) (fun x X hQ => ?_)
  change G E x M 0 [(0, .ref (ad E p0))] []
  refine g_iconst (v := 4) X dX2_number_0 (by decide) ?_
  exact g_iret X hQ dX2_number_1 h
theorem cw_X3_number : CW yX3_number cX3_number 1 (some .int) 0 := ⟨m136, m137, Nat.le_of_ble_eq_true rfl, by decide +kernel⟩
def wp_X3_number (Post : Int32 → Mem → Prop) (M : Mem) : Prop :=
 Post 3 M
theorem w_X3_number (E : Ek) (l : Launch) {p0 : Nat} (hp : Prs p0) {M : Mem} {Post : Int32 → Mem → Prop} (h : wp_X3_number Post M ) : ctI E l yX3_number cX3_number 1 (some .int) 1 [.ref (ad E p0)] M Post := by
  refine ct_of (by decide) (Nat.le_of_ble_eq_true rfl) (fun x X hQ => ?_)
  change G E x M 0 [(0, .ref (ad E p0))] []
  refine g_iconst (v := 3) X dX3_number_0 (by decide) ?_
  exact g_iret X hQ dX3_number_1 h
theorem cw_X7_number : CW yX7_number cX7_number 1 (some .int) 0 := ⟨m138, m139, Nat.le_of_ble_eq_true rfl, by decide +kernel⟩
def wp_X7_number (Post : Int32 → Mem → Prop) (M : Mem) : Prop :=
 Post 0 M
theorem w_X7_number (E : Ek) (l : Launch) {p0 : Nat} (hp : Prs p0) {M : Mem} {Post : Int32 → Mem → Prop} (h : wp_X7_number Post M ) : ctI E l yX7_number cX7_number 1 (some .int) 1 [.ref (ad E p0)] M Post := by
  refine ct_of (by decide) (Nat.le_of_ble_eq_true rfl) (fun x X hQ => ?_)
  change G E x M 0 [(0, .ref (ad E p0))] []
  refine g_iconst (v := 0) X dX7_number_0 (by decide) ?_
  exact g_iret X hQ dX7_number_1 h
theorem cw_X8_number : CW yX8_number cX8_number 1 (some .int) 0 := ⟨m140, m141, Nat.le_of_ble_eq_true rfl, by decide +kernel⟩
def wp_X8_number (Post : Int32 → Mem → Prop) (M : Mem) : Prop :=
 Post 1 M
theorem w_X8_number (E : Ek) (l : Launch) {p0 : Nat} (hp : Prs p0) {M : Mem} {Post : Int32 → Mem → Prop} (h : wp_X8_number Post M ) : ctI E l yX8_number cX8_number 1 (some .int) 1 [.ref (ad E p0)] M Post := by
  refine ct_of (by decide) (Nat.le_of_ble_eq_true rfl) (fun x X hQ => ?_)
  change G E x M 0 [(0, .ref (ad E p0))] []
  refine g_iconst (v := 1) X dX8_number_0 (by decide) ?_
  exact g_iret X hQ dX8_number_1 h
theorem cw_X1_passes : CW yX1_passes cX1_passes 3 (some .boolean) 2 := ⟨m149, m133, Nat.le_of_ble_eq_true rfl, by decide +kernel⟩
def wp_X1_passes (Post : Int32 → Mem → Prop) (M : Mem) (v1 : Int32) (v2 : Int32) : Prop :=
 Post 1 M
theorem w_X1_passes (E : Ek) (l : Launch) {p0 : Nat} {v1 : Int32} {v2 : Int32} (hp : Prs p0) {M : Mem} {Post : Int32 → Mem → Prop} (h : wp_X1_passes Post M v1 v2) : ctI E l yX1_passes cX1_passes 3 (some .boolean) 1 [.ref (ad E p0), .int v1, .int v2] M Post := by
  refine ct_of (by decide) (Nat.le_of_ble_eq_true rfl) (fun x X hQ => ?_)
  change G E x M 0 [(0, .ref (ad E p0)), (1, .int v1), (2, .int v2)] []
  refine g_iconst (v := 1) X dX1_passes_0 (by decide) ?_
  exact g_zret X hQ dX1_passes_1 ⟨Or.inr rfl, h⟩
theorem cw_X7_passes : CW yX7_passes cX7_passes 3 (some .boolean) 2 := ⟨m150, m139, Nat.le_of_ble_eq_true rfl, by decide +kernel⟩
def wp_X7_passes (Post : Int32 → Mem → Prop) (M : Mem) (v1 : Int32) (v2 : Int32) : Prop :=
 (v1 = 0 →
  Post 1 M) ∧
 (¬ v1 = 0 →
  (v2 = 0 →
   Post 0 M) ∧
  (¬ v2 = 0 →
   Post 1 M))
theorem w_X7_passes (E : Ek) (l : Launch) {p0 : Nat} {v1 : Int32} {v2 : Int32} (hp : Prs p0) {M : Mem} {Post : Int32 → Mem → Prop} (h : wp_X7_passes Post M v1 v2) : ctI E l yX7_passes cX7_passes 3 (some .boolean) 1 [.ref (ad E p0), .int v1, .int v2] M Post := by
  refine ct_of (by decide) (Nat.le_of_ble_eq_true rfl) (fun x X hQ => ?_)
  change G E x M 0 [(0, .ref (ad E p0)), (1, .int v1), (2, .int v2)] []
  refine g_iload_n X dX7_passes_0 rfl 1 rfl ?_
  refine g_ifeq (tgt := 8) X dX7_passes_1 (by decide) h (fun h => ?_) (fun h => ?_)
  · refine g_iconst (v := 1) X dX7_passes_8 (by decide) ?_
    refine g_goto (tgt := 13) X dX7_passes_9 (by decide) ?_
    exact g_zret X hQ dX7_passes_13 ⟨Or.inr rfl, h⟩
  · refine g_iload_n X dX7_passes_4 rfl 2 rfl ?_
    refine g_ifeq (tgt := 12) X dX7_passes_5 (by decide) h (fun h => ?_) (fun h => ?_)
    · refine g_iconst (v := 0) X dX7_passes_12 (by decide) ?_
      exact g_zret X hQ dX7_passes_13 ⟨Or.inl rfl, h⟩
    · refine g_iconst (v := 1) X dX7_passes_8 (by decide) ?_
      refine g_goto (tgt := 13) X dX7_passes_9 (by decide) ?_
      exact g_zret X hQ dX7_passes_13 ⟨Or.inr rfl, h⟩
theorem cw_X8_passes : CW yX8_passes cX8_passes 3 (some .boolean) 2 := ⟨m151, m141, Nat.le_of_ble_eq_true rfl, by decide +kernel⟩
def wp_X8_passes (Post : Int32 → Mem → Prop) (M : Mem) (v1 : Int32) (v2 : Int32) : Prop :=
 Post 0 M
theorem w_X8_passes (E : Ek) (l : Launch) {p0 : Nat} {v1 : Int32} {v2 : Int32} (hp : Prs p0) {M : Mem} {Post : Int32 → Mem → Prop} (h : wp_X8_passes Post M v1 v2) : ctI E l yX8_passes cX8_passes 3 (some .boolean) 1 [.ref (ad E p0), .int v1, .int v2] M Post := by
  refine ct_of (by decide) (Nat.le_of_ble_eq_true rfl) (fun x X hQ => ?_)
  change G E x M 0 [(0, .ref (ad E p0)), (1, .int v1), (2, .int v2)] []
  refine g_iconst (v := 0) X dX8_passes_0 (by decide) ?_
  exact g_zret X hQ dX8_passes_1 ⟨Or.inl rfl, h⟩
theorem cw_X2_costOfSum : CW yX2_costOfSum cX2_costOfSum 2 (some .int) 1 := ⟨m169, m135, Nat.le_of_ble_eq_true rfl, by decide +kernel⟩
def wp_X2_costOfSum (Post : Int32 → Mem → Prop) (M : Mem) (v1 : Int32) : Prop :=
 Post v1 M
theorem w_X2_costOfSum (E : Ek) (l : Launch) {p0 : Nat} {v1 : Int32} (hp : Prs p0) {M : Mem} {Post : Int32 → Mem → Prop} (h : wp_X2_costOfSum Post M v1) : ctI E l yX2_costOfSum cX2_costOfSum 2 (some .int) 1 [.ref (ad E p0), .int v1] M Post := by
  refine ct_of (by decide) (Nat.le_of_ble_eq_true rfl) (fun x X hQ => ?_)
  change G E x M 0 [(0, .ref (ad E p0)), (1, .int v1)] []
  refine g_iload_n X dX2_costOfSum_0 rfl 1 rfl ?_
  exact g_iret X hQ dX2_costOfSum_1 h
theorem cw_X7_costOfSum : CW yX7_costOfSum cX7_costOfSum 2 (some .int) 1 := ⟨m170, m139, Nat.le_of_ble_eq_true rfl, by decide +kernel⟩
def wp_X7_costOfSum (Post : Int32 → Mem → Prop) (M : Mem) (v1 : Int32) : Prop :=
 Post v1 M
theorem w_X7_costOfSum (E : Ek) (l : Launch) {p0 : Nat} {v1 : Int32} (hp : Prs p0) {M : Mem} {Post : Int32 → Mem → Prop} (h : wp_X7_costOfSum Post M v1) : ctI E l yX7_costOfSum cX7_costOfSum 2 (some .int) 1 [.ref (ad E p0), .int v1] M Post := by
  refine ct_of (by decide) (Nat.le_of_ble_eq_true rfl) (fun x X hQ => ?_)
  change G E x M 0 [(0, .ref (ad E p0)), (1, .int v1)] []
  refine g_iload_n X dX7_costOfSum_0 rfl 1 rfl ?_
  exact g_iret X hQ dX7_costOfSum_1 h
theorem cw_X8_costOfSum : CW yX8_costOfSum cX8_costOfSum 2 (some .int) 1 := ⟨m171, m141, Nat.le_of_ble_eq_true rfl, by decide +kernel⟩
def wp_X8_costOfSum (Post : Int32 → Mem → Prop) (M : Mem) (v1 : Int32) : Prop :=
 Post (v1 + 1) M
theorem w_X8_costOfSum (E : Ek) (l : Launch) {p0 : Nat} {v1 : Int32} (hp : Prs p0) {M : Mem} {Post : Int32 → Mem → Prop} (h : wp_X8_costOfSum Post M v1) : ctI E l yX8_costOfSum cX8_costOfSum 2 (some .int) 1 [.ref (ad E p0), .int v1] M Post := by
  refine ct_of (by decide) (Nat.le_of_ble_eq_true rfl) (fun x X hQ => ?_)
  change G E x M 0 [(0, .ref (ad E p0)), (1, .int v1)] []
  refine g_iload_n X dX8_costOfSum_0 rfl 1 rfl ?_
  refine g_iconst (v := 1) X dX8_costOfSum_1 (by decide) ?_
  refine g_iadd X dX8_costOfSum_2 ?_
  exact g_iret X hQ dX8_costOfSum_3 h
theorem cw_X3_mayPayFrom : CW yX3_mayPayFrom cX3_mayPayFrom 3 (some .boolean) 2 := ⟨m175, m137, Nat.le_of_ble_eq_true rfl, by decide +kernel⟩
def wp_X3_mayPayFrom (Post : Int32 → Mem → Prop) (M : Mem) (v1 : Int32) (v2 : Int32) : Prop :=
 zb v1 ∧ Post v1 M
theorem w_X3_mayPayFrom (E : Ek) (l : Launch) {p0 : Nat} {v1 : Int32} {v2 : Int32} (hp : Prs p0) {M : Mem} {Post : Int32 → Mem → Prop} (h : wp_X3_mayPayFrom Post M v1 v2) : ctI E l yX3_mayPayFrom cX3_mayPayFrom 3 (some .boolean) 1 [.ref (ad E p0), .int v1, .int v2] M Post := by
  refine ct_of (by decide) (Nat.le_of_ble_eq_true rfl) (fun x X hQ => ?_)
  change G E x M 0 [(0, .ref (ad E p0)), (1, .int v1), (2, .int v2)] []
  refine g_iload_n X dX3_mayPayFrom_0 rfl 1 rfl ?_
  exact g_zret X hQ dX3_mayPayFrom_1 h
theorem cw_X7_mayPayFrom : CW yX7_mayPayFrom cX7_mayPayFrom 3 (some .boolean) 2 := ⟨m176, m139, Nat.le_of_ble_eq_true rfl, by decide +kernel⟩
def wp_X7_mayPayFrom (Post : Int32 → Mem → Prop) (M : Mem) (v1 : Int32) (v2 : Int32) : Prop :=
 (v1 = 0 →
  Post 0 M) ∧
 (¬ v1 = 0 →
  (v2 = 0 →
   Post 0 M) ∧
  (¬ v2 = 0 →
   Post 1 M))
theorem w_X7_mayPayFrom (E : Ek) (l : Launch) {p0 : Nat} {v1 : Int32} {v2 : Int32} (hp : Prs p0) {M : Mem} {Post : Int32 → Mem → Prop} (h : wp_X7_mayPayFrom Post M v1 v2) : ctI E l yX7_mayPayFrom cX7_mayPayFrom 3 (some .boolean) 1 [.ref (ad E p0), .int v1, .int v2] M Post := by
  refine ct_of (by decide) (Nat.le_of_ble_eq_true rfl) (fun x X hQ => ?_)
  change G E x M 0 [(0, .ref (ad E p0)), (1, .int v1), (2, .int v2)] []
  refine g_iload_n X dX7_mayPayFrom_0 rfl 1 rfl ?_
  refine g_ifeq (tgt := 12) X dX7_mayPayFrom_1 (by decide) h (fun h => ?_) (fun h => ?_)
  · refine g_iconst (v := 0) X dX7_mayPayFrom_12 (by decide) ?_
    exact g_zret X hQ dX7_mayPayFrom_13 ⟨Or.inl rfl, h⟩
  · refine g_iload_n X dX7_mayPayFrom_4 rfl 2 rfl ?_
    refine g_ifeq (tgt := 12) X dX7_mayPayFrom_5 (by decide) h (fun h => ?_) (fun h => ?_)
    · refine g_iconst (v := 0) X dX7_mayPayFrom_12 (by decide) ?_
      exact g_zret X hQ dX7_mayPayFrom_13 ⟨Or.inl rfl, h⟩
    · refine g_iconst (v := 1) X dX7_mayPayFrom_8 (by decide) ?_
      refine g_goto (tgt := 13) X dX7_mayPayFrom_9 (by decide) ?_
      exact g_zret X hQ dX7_mayPayFrom_13 ⟨Or.inr rfl, h⟩
theorem cw_X8_mayPayFrom : CW yX8_mayPayFrom cX8_mayPayFrom 3 (some .boolean) 2 := ⟨m177, m141, Nat.le_of_ble_eq_true rfl, by decide +kernel⟩
def wp_X8_mayPayFrom (Post : Int32 → Mem → Prop) (M : Mem) (v1 : Int32) (v2 : Int32) : Prop :=
 Post 1 M
theorem w_X8_mayPayFrom (E : Ek) (l : Launch) {p0 : Nat} {v1 : Int32} {v2 : Int32} (hp : Prs p0) {M : Mem} {Post : Int32 → Mem → Prop} (h : wp_X8_mayPayFrom Post M v1 v2) : ctI E l yX8_mayPayFrom cX8_mayPayFrom 3 (some .boolean) 1 [.ref (ad E p0), .int v1, .int v2] M Post := by
  refine ct_of (by decide) (Nat.le_of_ble_eq_true rfl) (fun x X hQ => ?_)
  change G E x M 0 [(0, .ref (ad E p0)), (1, .int v1), (2, .int v2)] []
  refine g_iconst (v := 1) X dX8_mayPayFrom_0 (by decide) ?_
  exact g_zret X hQ dX8_mayPayFrom_1 ⟨Or.inr rfl, h⟩
section VRows
variable {E : Ek} {x : MC} {cc : ByteArray} {nL hm pc : Nat} {own : String} {M : Mem} {lv : List (Nat × Value)} {st : List Value} {A B : Prop}
variable {q ci k N idx n : Nat} {C : String} {T : u_T}
theorem prs_c {P : Nat → Prop} (h1 : P 11) (h2 : P 12) (h3 : P 13) (h4 : P 14) {p : Nat} (h : Prs p) : P p := by
  obtain ⟨a, b⟩ := h
  rcases (by omega : p = 11 ∨ p = 12 ∨ p = 13 ∨ p = 14) with rfl | rfl | rfl | rfl <;> assumption
theorem prs_lay {p : Nat} (h : Prs p) : ∀ (E : Ek) (f : Nat → Int32) (u : Int64), lay E p f u = .inr (pcls (f 0), []) := prs_c (P := fun p => ∀ (E : Ek) (f : Nat → Int32) (u : Int64), lay E p f u = .inr (pcls (f 0), [])) (fun _ _ _ => rfl) (fun _ _ _ => rfl) (fun _ _ _ => rfl) (fun _ _ _ => rfl) h
theorem prs_lt {p : Nat} (h : Prs p) : p < 123 := by have := h.2; omega
theorem Cx.recvP (X : Cx E x cc nL own hm) {p : Nat} (h : Prs p) {r : vw_C} (hc : classes[pcls (rd M p 0)]? = some r) {H : Heap} (hP : va_P (eD E) classes (ws E M) H) : ∃ cellB : Cell, H[ad E p]? = some cellB ∧ cellB.vm.isStatics = false ∧ (xs x).vm.findClass r.1 = some cellB.cls :=
  va_recv X.ge.1 hP hc ((ws_at (prs_lt h)).trans (by rw [prs_lay h]; rfl))
theorem gi_c {w : Cond} {l : List Cond} (h : w ∈ gt) (hl : GoodIn gt l) : GoodIn gt (w :: l) := fun z hz => by
  rcases List.mem_cons.mp hz with rfl | hz
  · exact ⟨h, good_of_word (gt_good h)⟩
  · exact hl z hz
variable {y : MethodName} {b : ByteArray} {mL hc : Nat} {rt : Option FieldType} {As : List Value} {Qc : Array Value → State → Outcome → State → Prop}
theorem run_VR (X : Cx E x cc nL own hm) (hM : ctG E (xl x) y b mL rt hc (.ref (ad E q) :: As) M Qc) (hw : CW y b mL rt n) (w1 : Cond.methodLink own idx y ∈ gt) (w2 : Cond.instanceMethod y ∈ gt) (w3 : Cond.selects C y y ∈ gt) (hr : hc < hm) (hn : As.length = n) (hd : decode cc pc = .ok (.invokevirtual idx, 3)) (hW : (st.map fun v => v.category).sum ≤ 8) {H : Heap} (hR : ∃ cellB : Cell, H[ad E q]? = some cellB ∧ cellB.vm.isStatics = false ∧ (xs x).vm.findClass C = some cellB.cls) {locs : List Loc} {ls : Array Slot} (hP : va_P (eD E) classes (ws E M) H) (hS : va_S (frE E) (xs x).heap H locs) (hL : lv_has ls (xn x) lv) :
    va_Run (xp x) (xl x) (xe x) (xR x) (xs x) (xm x) (xa x) (xb x) (xM x) (xc x) H locs (xk x) (xz x) 0 0 (F0 (xm x) pc ls (As.reverse ++ .ref (ad E q) :: st)) st (Qc (Value.ref (ad E q) :: As).toArray) (frE E) :=
  va_runV ⟨X.ex, X.cb, X.ml, X.ow, X.hts⟩ hM ⟨callB_of n X.hts (gt_GI hw.1) rfl rfl rfl (X.hts _ hw.2.1) (X.hts _ w1) hw.2.2.2 (X.room hr hw.2.2.1), X.hts _ w2, X.hts _ w3⟩ ⟨(X.pre hP hS).1, hR, (X.pre hP hS).2⟩ rfl hn (hL.1.trans X.nl) rfl (lv_room hW) hd ⟨X.kz.1, X.kz.2⟩
theorem run_U (X : Cx E x cc nL own hm) {owner : String} {x0 : MethodName} (hM : ctG E (xl x) y b mL rt hc (.ref (ad E q) :: As) M Qc) (hU : va_CU (xR x) (xs x) (xa x) own C owner idx x0 y b mL rt (.code y b mL rt :: gt) (rmh hc) 0 0 n) (hn : As.length = n) (hd : decode cc pc = .ok (.invokevirtual idx, 3)) (hW : (st.map fun v => v.category).sum ≤ 8) {H : Heap} (hR : ∃ cellB : Cell, H[ad E q]? = some cellB ∧ cellB.vm.isStatics = false ∧ (xs x).vm.findClass C = some cellB.cls) {locs : List Loc} {ls : Array Slot} (hP : va_P (eD E) classes (ws E M) H) (hS : va_S (frE E) (xs x).heap H locs) (hL : lv_has ls (xn x) lv) :
    va_Run (xp x) (xl x) (xe x) (xR x) (xs x) (xm x) (xa x) (xb x) (xM x) (xc x) H locs (xk x) (xz x) 0 0 (F0 (xm x) pc ls (As.reverse ++ .ref (ad E q) :: st)) st (Qc (Value.ref (ad E q) :: As).toArray) (frE E) :=
  va_runU ⟨X.ex, X.cb, X.ml, X.ow, X.hts⟩ hM hU ⟨(X.pre hP hS).1, hR, (X.pre hP hS).2⟩ rfl hn (hL.1.trans X.nl) rfl (lv_room hW) hd ⟨X.kz.1, X.kz.2⟩
/-- which kind is an instance of what -/
def ins_X8 (k : Int32) : Int32 := if k = 1 ∨ k = 4 then 1 else 0
def ins_X1 (k : Int32) : Int32 := if k = 2 then 1 else 0
def ins_X3 (k : Int32) : Int32 := if k = 3 then 1 else 0
def ins_X2 (k : Int32) : Int32 := if k = 4 then 1 else 0
theorem pcls_1 {k : Int32} (h : k = 1) : pcls k = 8 := by subst h; rfl
theorem pcls_2 {k : Int32} (h : k = 2) : pcls k = 1 := by subst h; rfl
theorem pcls_3 {k : Int32} (h : k = 3) : pcls k = 3 := by subst h; rfl
theorem pcls_4 {k : Int32} (h : k = 4) : pcls k = 2 := by subst h; rfl
theorem pcls_0 {k : Int32} (h1 : ¬ k = 1) (h2 : ¬ k = 2) (h3 : ¬ k = 3) (h4 : ¬ k = 4) : pcls k = 7 := by simp [pcls, h1, h2, h3, h4]
theorem g_insY (X : Cx E x cc nL own hm) {p : Nat} (hp : Prs p) {r : vw_C} {nm : String} (hc : classes[pcls (rd M p 0)]? = some r) (w1 : Cond.classLink own idx nm ∈ gt) (w2 : Cond.castable r.1 nm ∈ tables_1) (hd : decode cc pc = .ok (.instanceof idx, 3)) (kk : G E x M (pc + 3) lv (.int 1 :: st)) : G E x M pc lv (.ref (ad E p) :: st) := fun H locs ls hP hS hL =>
  va_instY X.ex X.cb X.ow (X.hts _ w1) (X.ge.2.1 _ w2 rfl) (X.recvP hp hc hP) hd (kk H locs ls hP hS hL)
theorem g_insS (X : Cx E x cc nL own hm) {p i : Nat} (hp : Prs p) {r : vw_C} (hi : pcls (rd M p 0) = i) (hc : classes[i]? = some r) (w1 : Cond.classLink own idx r.1 ∈ gt) (hd : decode cc pc = .ok (.instanceof idx, 3)) (kk : G E x M (pc + 3) lv (.int 1 :: st)) : G E x M pc lv (.ref (ad E p) :: st) := fun H locs ls hP hS hL =>
  va_instS (cC := (eD E).1 i) X.ex X.cb X.ow (X.hts _ w1) (X.ge.1.1 i r hc).2 (X.recvP hp (by rw [hi]; exact hc) hP) hd (kk H locs ls hP hS hL)
theorem g_insN (X : Cx E x cc nL own hm) {p : Nat} (hp : Prs p) {r : vw_C} {nm : String} (hc : classes[pcls (rd M p 0)]? = some r) (w1 : Cond.classLink own idx nm ∈ gt) (w2 : (r.1, nm) ∈ ncs) (hd : decode cc pc = .ok (.instanceof idx, 3)) (kk : G E x M (pc + 3) lv (.int 0 :: st)) : G E x M pc lv (.ref (ad E p) :: st) := fun H locs ls hP hS hL =>
  va_instNo X.ex X.cb X.ow (X.hts _ w1) (X.ge.2.2.1 _ w2) (X.recvP hp hc hP) hd (kk H locs ls hP hS hL)
end VRows
def wpv_number (Post : Int32 → Mem → Prop) (M : Mem) (q : Nat) : Prop :=
  if rd M q 0 = 1 then wp_X8_number Post M  else if rd M q 0 = 2 then wp_X1_number Post M  else if rd M q 0 = 3 then wp_X3_number Post M  else if rd M q 0 = 4 then wp_X2_number Post M  else wp_X7_number Post M 
theorem cv_X11_100 {E : Ek} {x : MC} {cc : ByteArray} {nL hm pc : Nat} {M : Mem} {lv : List (Nat × Value)} {st : List Value} (X : Cx E x cc nL RX11 hm) {p0 : Nat} (hp : Prs p0) {Post : Int32 → Mem → Prop} (hr : 1 < hm) (hW : (st.map fun v => v.category).sum ≤ 8) (hd : decode cc pc = .ok (.invokevirtual 100, 3)) (h : wpv_number Post M p0 ) (kk : ∀ r M1, Post r M1 → G E x M1 (pc + 3) lv (.int r :: st)) : G E x M pc lv (.ref (ad E p0) :: st) := by
  unfold wpv_number at h
  by_cases c1 : rd M p0 0 = 1
  · rw [if_pos c1] at h
    exact k_I (fun hP hS hL => run_U X (w_X8_number E (xl x) hp h) (va_cwO (C := RX8) (owner := RX7) (x := yX7_number) 0 X.hts (gi_c m800 (gi_c m801 (gi_c m804 (gi_c m802 (gi_c m803 (gi_c m141 (gt_GI cw_X8_number.1))))))) rfl rfl rfl m138 (by decide +kernel) (X.room hr cw_X8_number.2.2.1)) rfl hd hW (X.recvP hp (by rw [pcls_1 c1]; rfl) hP) hP hS hL) kk
  rw [if_neg c1] at h
  by_cases c2 : rd M p0 0 = 2
  · rw [if_pos c2] at h
    exact k_I (fun hP hS hL => run_U X (w_X1_number E (xl x) hp h) (va_cwO (C := RX1) (owner := RX7) (x := yX7_number) 0 X.hts (gi_c m800 (gi_c m801 (gi_c m804 (gi_c m805 (gi_c m806 (gi_c m133 (gt_GI cw_X1_number.1))))))) rfl rfl rfl m138 (by decide +kernel) (X.room hr cw_X1_number.2.2.1)) rfl hd hW (X.recvP hp (by rw [pcls_2 c2]; rfl) hP) hP hS hL) kk
  rw [if_neg c2] at h
  by_cases c3 : rd M p0 0 = 3
  · rw [if_pos c3] at h
    exact k_I (fun hP hS hL => run_U X (w_X3_number E (xl x) hp h) (va_cwO (C := RX3) (owner := RX7) (x := yX7_number) 0 X.hts (gi_c m800 (gi_c m801 (gi_c m804 (gi_c m807 (gi_c m808 (gi_c m137 (gt_GI cw_X3_number.1))))))) rfl rfl rfl m138 (by decide +kernel) (X.room hr cw_X3_number.2.2.1)) rfl hd hW (X.recvP hp (by rw [pcls_3 c3]; rfl) hP) hP hS hL) kk
  rw [if_neg c3] at h
  by_cases c4 : rd M p0 0 = 4
  · rw [if_pos c4] at h
    exact k_I (fun hP hS hL => run_U X (w_X2_number E (xl x) hp h) (va_cwO (C := RX2) (owner := RX7) (x := yX7_number) 0 X.hts (gi_c m800 (gi_c m801 (gi_c m804 (gi_c m809 (gi_c m810 (gi_c m135 (gt_GI cw_X2_number.1))))))) rfl rfl rfl m138 (by decide +kernel) (X.room hr cw_X2_number.2.2.1)) rfl hd hW (X.recvP hp (by rw [pcls_4 c4]; rfl) hP) hP hS hL) kk
  rw [if_neg c4] at h
  exact k_I (fun hP hS hL => run_VR X (w_X7_number E (xl x) hp h) cw_X7_number m800 m804 m811 hr rfl hd hW (X.recvP hp (by rw [pcls_0 c1 c2 c3 c4]; rfl) hP) hP hS hL) kk
def wpv_passes (Post : Int32 → Mem → Prop) (M : Mem) (q : Nat) (v1 : Int32) (v2 : Int32) : Prop :=
  if rd M q 0 = 1 then wp_X8_passes Post M v1 v2 else if rd M q 0 = 2 then wp_X1_passes Post M v1 v2 else if rd M q 0 = 3 then wp_X7_passes Post M v1 v2 else if rd M q 0 = 4 then wp_X8_passes Post M v1 v2 else wp_X7_passes Post M v1 v2
theorem cv_X0_54 {E : Ek} {x : MC} {cc : ByteArray} {nL hm pc : Nat} {M : Mem} {lv : List (Nat × Value)} {st : List Value} (X : Cx E x cc nL RX0 hm) {p0 : Nat} (hp : Prs p0) {v1 : Int32} {v2 : Int32} {Post : Int32 → Mem → Prop} (hr : 1 < hm) (hW : (st.map fun v => v.category).sum ≤ 8) (hd : decode cc pc = .ok (.invokevirtual 54, 3)) (h : wpv_passes Post M p0 v1 v2) (kk : ∀ r M1, Post r M1 → G E x M1 (pc + 3) lv (.int r :: st)) : G E x M pc lv (.int v2 :: .int v1 :: .ref (ad E p0) :: st) := by
  unfold wpv_passes at h
  by_cases c1 : rd M p0 0 = 1
  · rw [if_pos c1] at h
    exact k_I (fun hP hS hL => run_U X (w_X8_passes E (xl x) hp h) (va_cwO (C := RX8) (owner := RX7) (x := yX7_passes) 2 X.hts (gi_c m812 (gi_c m813 (gi_c m816 (gi_c m814 (gi_c m815 (gi_c m141 (gt_GI cw_X8_passes.1))))))) rfl rfl rfl m150 (by decide +kernel) (X.room hr cw_X8_passes.2.2.1)) rfl hd hW (X.recvP hp (by rw [pcls_1 c1]; rfl) hP) hP hS hL) kk
  rw [if_neg c1] at h
  by_cases c2 : rd M p0 0 = 2
  · rw [if_pos c2] at h
    exact k_I (fun hP hS hL => run_U X (w_X1_passes E (xl x) hp h) (va_cwO (C := RX1) (owner := RX7) (x := yX7_passes) 2 X.hts (gi_c m812 (gi_c m813 (gi_c m816 (gi_c m817 (gi_c m818 (gi_c m133 (gt_GI cw_X1_passes.1))))))) rfl rfl rfl m150 (by decide +kernel) (X.room hr cw_X1_passes.2.2.1)) rfl hd hW (X.recvP hp (by rw [pcls_2 c2]; rfl) hP) hP hS hL) kk
  rw [if_neg c2] at h
  by_cases c3 : rd M p0 0 = 3
  · rw [if_pos c3] at h
    exact k_I (fun hP hS hL => run_U X (w_X7_passes E (xl x) hp h) (va_cwU (C := RX3) (owner := RX7) (x := yX7_passes) 2 X.hts (gi_c m812 (gi_c m813 (gi_c m819 (gi_c m816 (gi_c m139 (gt_GI cw_X7_passes.1)))))) rfl rfl rfl rfl (by decide +kernel) (X.room hr cw_X7_passes.2.2.1)) rfl hd hW (X.recvP hp (by rw [pcls_3 c3]; rfl) hP) hP hS hL) kk
  rw [if_neg c3] at h
  by_cases c4 : rd M p0 0 = 4
  · rw [if_pos c4] at h
    exact k_I (fun hP hS hL => run_U X (w_X8_passes E (xl x) hp h) (va_cwO (C := RX2) (owner := RX7) (x := yX7_passes) 2 X.hts (gi_c m812 (gi_c m813 (gi_c m816 (gi_c m820 (gi_c m815 (gi_c m141 (gt_GI cw_X8_passes.1))))))) rfl rfl rfl m150 (by decide +kernel) (X.room hr cw_X8_passes.2.2.1)) rfl hd hW (X.recvP hp (by rw [pcls_4 c4]; rfl) hP) hP hS hL) kk
  rw [if_neg c4] at h
  exact k_I (fun hP hS hL => run_VR X (w_X7_passes E (xl x) hp h) cw_X7_passes m812 m816 m821 hr rfl hd hW (X.recvP hp (by rw [pcls_0 c1 c2 c3 c4]; rfl) hP) hP hS hL) kk
def wpv_costOfSum (Post : Int32 → Mem → Prop) (M : Mem) (q : Nat) (v1 : Int32) : Prop :=
  if rd M q 0 = 1 then wp_X8_costOfSum Post M v1 else if rd M q 0 = 2 then wp_X7_costOfSum Post M v1 else if rd M q 0 = 3 then wp_X7_costOfSum Post M v1 else if rd M q 0 = 4 then wp_X2_costOfSum Post M v1 else wp_X7_costOfSum Post M v1
theorem cv_X0_74 {E : Ek} {x : MC} {cc : ByteArray} {nL hm pc : Nat} {M : Mem} {lv : List (Nat × Value)} {st : List Value} (X : Cx E x cc nL RX0 hm) {p0 : Nat} (hp : Prs p0) {v1 : Int32} {Post : Int32 → Mem → Prop} (hr : 1 < hm) (hW : (st.map fun v => v.category).sum ≤ 8) (hd : decode cc pc = .ok (.invokevirtual 74, 3)) (h : wpv_costOfSum Post M p0 v1) (kk : ∀ r M1, Post r M1 → G E x M1 (pc + 3) lv (.int r :: st)) : G E x M pc lv (.int v1 :: .ref (ad E p0) :: st) := by
  unfold wpv_costOfSum at h
  by_cases c1 : rd M p0 0 = 1
  · rw [if_pos c1] at h
    exact k_I (fun hP hS hL => run_U X (w_X8_costOfSum E (xl x) hp h) (va_cwO (C := RX8) (owner := RX7) (x := yX7_costOfSum) 1 X.hts (gi_c m822 (gi_c m823 (gi_c m826 (gi_c m824 (gi_c m825 (gi_c m141 (gt_GI cw_X8_costOfSum.1))))))) rfl rfl rfl m170 (by decide +kernel) (X.room hr cw_X8_costOfSum.2.2.1)) rfl hd hW (X.recvP hp (by rw [pcls_1 c1]; rfl) hP) hP hS hL) kk
  rw [if_neg c1] at h
  by_cases c2 : rd M p0 0 = 2
  · rw [if_pos c2] at h
    exact k_I (fun hP hS hL => run_U X (w_X7_costOfSum E (xl x) hp h) (va_cwU (C := RX1) (owner := RX7) (x := yX7_costOfSum) 1 X.hts (gi_c m822 (gi_c m823 (gi_c m827 (gi_c m826 (gi_c m139 (gt_GI cw_X7_costOfSum.1)))))) rfl rfl rfl rfl (by decide +kernel) (X.room hr cw_X7_costOfSum.2.2.1)) rfl hd hW (X.recvP hp (by rw [pcls_2 c2]; rfl) hP) hP hS hL) kk
  rw [if_neg c2] at h
  by_cases c3 : rd M p0 0 = 3
  · rw [if_pos c3] at h
    exact k_I (fun hP hS hL => run_U X (w_X7_costOfSum E (xl x) hp h) (va_cwU (C := RX3) (owner := RX7) (x := yX7_costOfSum) 1 X.hts (gi_c m822 (gi_c m823 (gi_c m828 (gi_c m826 (gi_c m139 (gt_GI cw_X7_costOfSum.1)))))) rfl rfl rfl rfl (by decide +kernel) (X.room hr cw_X7_costOfSum.2.2.1)) rfl hd hW (X.recvP hp (by rw [pcls_3 c3]; rfl) hP) hP hS hL) kk
  rw [if_neg c3] at h
  by_cases c4 : rd M p0 0 = 4
  · rw [if_pos c4] at h
    exact k_I (fun hP hS hL => run_U X (w_X2_costOfSum E (xl x) hp h) (va_cwO (C := RX2) (owner := RX7) (x := yX7_costOfSum) 1 X.hts (gi_c m822 (gi_c m823 (gi_c m826 (gi_c m829 (gi_c m830 (gi_c m135 (gt_GI cw_X2_costOfSum.1))))))) rfl rfl rfl m170 (by decide +kernel) (X.room hr cw_X2_costOfSum.2.2.1)) rfl hd hW (X.recvP hp (by rw [pcls_4 c4]; rfl) hP) hP hS hL) kk
  rw [if_neg c4] at h
  exact k_I (fun hP hS hL => run_VR X (w_X7_costOfSum E (xl x) hp h) cw_X7_costOfSum m822 m826 m831 hr rfl hd hW (X.recvP hp (by rw [pcls_0 c1 c2 c3 c4]; rfl) hP) hP hS hL) kk
def wpv_mayPayFrom (Post : Int32 → Mem → Prop) (M : Mem) (q : Nat) (v1 : Int32) (v2 : Int32) : Prop :=
  if rd M q 0 = 1 then wp_X8_mayPayFrom Post M v1 v2 else if rd M q 0 = 2 then wp_X7_mayPayFrom Post M v1 v2 else if rd M q 0 = 3 then wp_X3_mayPayFrom Post M v1 v2 else if rd M q 0 = 4 then wp_X8_mayPayFrom Post M v1 v2 else wp_X7_mayPayFrom Post M v1 v2
theorem cv_X0_87 {E : Ek} {x : MC} {cc : ByteArray} {nL hm pc : Nat} {M : Mem} {lv : List (Nat × Value)} {st : List Value} (X : Cx E x cc nL RX0 hm) {p0 : Nat} (hp : Prs p0) {v1 : Int32} {v2 : Int32} {Post : Int32 → Mem → Prop} (hr : 1 < hm) (hW : (st.map fun v => v.category).sum ≤ 8) (hd : decode cc pc = .ok (.invokevirtual 87, 3)) (h : wpv_mayPayFrom Post M p0 v1 v2) (kk : ∀ r M1, Post r M1 → G E x M1 (pc + 3) lv (.int r :: st)) : G E x M pc lv (.int v2 :: .int v1 :: .ref (ad E p0) :: st) := by
  unfold wpv_mayPayFrom at h
  by_cases c1 : rd M p0 0 = 1
  · rw [if_pos c1] at h
    exact k_I (fun hP hS hL => run_U X (w_X8_mayPayFrom E (xl x) hp h) (va_cwO (C := RX8) (owner := RX7) (x := yX7_mayPayFrom) 2 X.hts (gi_c m832 (gi_c m833 (gi_c m836 (gi_c m834 (gi_c m835 (gi_c m141 (gt_GI cw_X8_mayPayFrom.1))))))) rfl rfl rfl m176 (by decide +kernel) (X.room hr cw_X8_mayPayFrom.2.2.1)) rfl hd hW (X.recvP hp (by rw [pcls_1 c1]; rfl) hP) hP hS hL) kk
  rw [if_neg c1] at h
  by_cases c2 : rd M p0 0 = 2
  · rw [if_pos c2] at h
    exact k_I (fun hP hS hL => run_U X (w_X7_mayPayFrom E (xl x) hp h) (va_cwU (C := RX1) (owner := RX7) (x := yX7_mayPayFrom) 2 X.hts (gi_c m832 (gi_c m833 (gi_c m837 (gi_c m836 (gi_c m139 (gt_GI cw_X7_mayPayFrom.1)))))) rfl rfl rfl rfl (by decide +kernel) (X.room hr cw_X7_mayPayFrom.2.2.1)) rfl hd hW (X.recvP hp (by rw [pcls_2 c2]; rfl) hP) hP hS hL) kk
  rw [if_neg c2] at h
  by_cases c3 : rd M p0 0 = 3
  · rw [if_pos c3] at h
    exact k_I (fun hP hS hL => run_U X (w_X3_mayPayFrom E (xl x) hp h) (va_cwO (C := RX3) (owner := RX7) (x := yX7_mayPayFrom) 2 X.hts (gi_c m832 (gi_c m833 (gi_c m836 (gi_c m838 (gi_c m839 (gi_c m137 (gt_GI cw_X3_mayPayFrom.1))))))) rfl rfl rfl m176 (by decide +kernel) (X.room hr cw_X3_mayPayFrom.2.2.1)) rfl hd hW (X.recvP hp (by rw [pcls_3 c3]; rfl) hP) hP hS hL) kk
  rw [if_neg c3] at h
  by_cases c4 : rd M p0 0 = 4
  · rw [if_pos c4] at h
    exact k_I (fun hP hS hL => run_U X (w_X8_mayPayFrom E (xl x) hp h) (va_cwO (C := RX2) (owner := RX7) (x := yX7_mayPayFrom) 2 X.hts (gi_c m832 (gi_c m833 (gi_c m836 (gi_c m840 (gi_c m835 (gi_c m141 (gt_GI cw_X8_mayPayFrom.1))))))) rfl rfl rfl m176 (by decide +kernel) (X.room hr cw_X8_mayPayFrom.2.2.1)) rfl hd hW (X.recvP hp (by rw [pcls_4 c4]; rfl) hP) hP hS hL) kk
  rw [if_neg c4] at h
  exact k_I (fun hP hS hL => run_VR X (w_X7_mayPayFrom E (xl x) hp h) cw_X7_mayPayFrom m832 m836 m841 hr rfl hd hW (X.recvP hp (by rw [pcls_0 c1 c2 c3 c4]; rfl) hP) hP hS hL) kk
theorem gi_X8 {E : Ek} {x : MC} {cc : ByteArray} {nL hm pc : Nat} {M : Mem} {lv : List (Nat × Value)} {st : List Value} (X : Cx E x cc nL RX4 hm) {p : Nat} (hp : Prs p) (hd : decode cc pc = .ok (.instanceof 37, 3)) (kk : G E x M (pc + 3) lv (.int (ins_X8 (rd M p 0)) :: st)) : G E x M pc lv (.ref (ad E p) :: st) := by
  by_cases c1 : rd M p 0 = 1
  · rw [(show ins_X8 (rd M p 0) = 1 by rw [c1]; rfl)] at kk
    exact g_insS X hp (pcls_1 c1) rfl m842 hd kk
  by_cases c2 : rd M p 0 = 2
  · rw [(show ins_X8 (rd M p 0) = 0 by rw [c2]; rfl)] at kk
    exact g_insN X hp (r := (RX1, TX1, 0)) (by rw [pcls_2 c2]; rfl) m842 (by decide) hd kk
  by_cases c3 : rd M p 0 = 3
  · rw [(show ins_X8 (rd M p 0) = 0 by rw [c3]; rfl)] at kk
    exact g_insN X hp (r := (RX3, TX3, 0)) (by rw [pcls_3 c3]; rfl) m842 (by decide) hd kk
  by_cases c4 : rd M p 0 = 4
  · rw [(show ins_X8 (rd M p 0) = 1 by rw [c4]; rfl)] at kk
    exact g_insY X hp (r := (RX2, TX2, 0)) (by rw [pcls_4 c4]; rfl) m842 m843 hd kk
  rw [(show ins_X8 (rd M p 0) = 0 by simp [ins_X8, c1, c2, c3, c4])] at kk
  exact g_insN X hp (r := (RX7, TX7, 0)) (by rw [pcls_0 c1 c2 c3 c4]; rfl) m842 (by decide) hd kk
theorem gi_X1 {E : Ek} {x : MC} {cc : ByteArray} {nL hm pc : Nat} {M : Mem} {lv : List (Nat × Value)} {st : List Value} (X : Cx E x cc nL RX4 hm) {p : Nat} (hp : Prs p) (hd : decode cc pc = .ok (.instanceof 40, 3)) (kk : G E x M (pc + 3) lv (.int (ins_X1 (rd M p 0)) :: st)) : G E x M pc lv (.ref (ad E p) :: st) := by
  by_cases c1 : rd M p 0 = 1
  · rw [(show ins_X1 (rd M p 0) = 0 by rw [c1]; rfl)] at kk
    exact g_insN X hp (r := (RX8, TX8, 0)) (by rw [pcls_1 c1]; rfl) m844 (by decide) hd kk
  by_cases c2 : rd M p 0 = 2
  · rw [(show ins_X1 (rd M p 0) = 1 by rw [c2]; rfl)] at kk
    exact g_insS X hp (pcls_2 c2) rfl m844 hd kk
  by_cases c3 : rd M p 0 = 3
  · rw [(show ins_X1 (rd M p 0) = 0 by rw [c3]; rfl)] at kk
    exact g_insN X hp (r := (RX3, TX3, 0)) (by rw [pcls_3 c3]; rfl) m844 (by decide) hd kk
  by_cases c4 : rd M p 0 = 4
  · rw [(show ins_X1 (rd M p 0) = 0 by rw [c4]; rfl)] at kk
    exact g_insN X hp (r := (RX2, TX2, 0)) (by rw [pcls_4 c4]; rfl) m844 (by decide) hd kk
  rw [(show ins_X1 (rd M p 0) = 0 by simp [ins_X1, c1, c2, c3, c4])] at kk
  exact g_insN X hp (r := (RX7, TX7, 0)) (by rw [pcls_0 c1 c2 c3 c4]; rfl) m844 (by decide) hd kk
theorem gi_X3 {E : Ek} {x : MC} {cc : ByteArray} {nL hm pc : Nat} {M : Mem} {lv : List (Nat × Value)} {st : List Value} (X : Cx E x cc nL RX4 hm) {p : Nat} (hp : Prs p) (hd : decode cc pc = .ok (.instanceof 43, 3)) (kk : G E x M (pc + 3) lv (.int (ins_X3 (rd M p 0)) :: st)) : G E x M pc lv (.ref (ad E p) :: st) := by
  by_cases c1 : rd M p 0 = 1
  · rw [(show ins_X3 (rd M p 0) = 0 by rw [c1]; rfl)] at kk
    exact g_insN X hp (r := (RX8, TX8, 0)) (by rw [pcls_1 c1]; rfl) m845 (by decide) hd kk
  by_cases c2 : rd M p 0 = 2
  · rw [(show ins_X3 (rd M p 0) = 0 by rw [c2]; rfl)] at kk
    exact g_insN X hp (r := (RX1, TX1, 0)) (by rw [pcls_2 c2]; rfl) m845 (by decide) hd kk
  by_cases c3 : rd M p 0 = 3
  · rw [(show ins_X3 (rd M p 0) = 1 by rw [c3]; rfl)] at kk
    exact g_insS X hp (pcls_3 c3) rfl m845 hd kk
  by_cases c4 : rd M p 0 = 4
  · rw [(show ins_X3 (rd M p 0) = 0 by rw [c4]; rfl)] at kk
    exact g_insN X hp (r := (RX2, TX2, 0)) (by rw [pcls_4 c4]; rfl) m845 (by decide) hd kk
  rw [(show ins_X3 (rd M p 0) = 0 by simp [ins_X3, c1, c2, c3, c4])] at kk
  exact g_insN X hp (r := (RX7, TX7, 0)) (by rw [pcls_0 c1 c2 c3 c4]; rfl) m845 (by decide) hd kk
theorem gi_X2 {E : Ek} {x : MC} {cc : ByteArray} {nL hm pc : Nat} {M : Mem} {lv : List (Nat × Value)} {st : List Value} (X : Cx E x cc nL RX4 hm) {p : Nat} (hp : Prs p) (hd : decode cc pc = .ok (.instanceof 46, 3)) (kk : G E x M (pc + 3) lv (.int (ins_X2 (rd M p 0)) :: st)) : G E x M pc lv (.ref (ad E p) :: st) := by
  by_cases c1 : rd M p 0 = 1
  · rw [(show ins_X2 (rd M p 0) = 0 by rw [c1]; rfl)] at kk
    exact g_insN X hp (r := (RX8, TX8, 0)) (by rw [pcls_1 c1]; rfl) m846 (by decide) hd kk
  by_cases c2 : rd M p 0 = 2
  · rw [(show ins_X2 (rd M p 0) = 0 by rw [c2]; rfl)] at kk
    exact g_insN X hp (r := (RX1, TX1, 0)) (by rw [pcls_2 c2]; rfl) m846 (by decide) hd kk
  by_cases c3 : rd M p 0 = 3
  · rw [(show ins_X2 (rd M p 0) = 0 by rw [c3]; rfl)] at kk
    exact g_insN X hp (r := (RX3, TX3, 0)) (by rw [pcls_3 c3]; rfl) m846 (by decide) hd kk
  by_cases c4 : rd M p 0 = 4
  · rw [(show ins_X2 (rd M p 0) = 1 by rw [c4]; rfl)] at kk
    exact g_insS X hp (pcls_4 c4) rfl m846 hd kk
  rw [(show ins_X2 (rd M p 0) = 0 by simp [ins_X2, c1, c2, c3, c4])] at kk
  exact g_insN X hp (r := (RX7, TX7, 0)) (by rw [pcls_0 c1 c2 c3 c4]; rfl) m846 (by decide) hd kk
