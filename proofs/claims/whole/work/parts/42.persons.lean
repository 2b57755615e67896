theorem y847 : Cond.code yX4_newOfKind cX4_newOfKind 1 (some (.object RX7)) ∈ gt := gt_t (tb_3 10 rfl) rfl
theorem y848 : Cond.methodLinkNest RX4 39 yX8_init "DebtRooms" ∈ tables_1 := tb_3 13 rfl
theorem yn849 : Cond.instantiable RX8 0 ∈ gt := gt_t (tb_3 12 rfl) rfl
theorem y850 : Cond.methodLinkNest RX4 42 yX1_init "DebtRooms" ∈ tables_1 := tb_3 20 rfl
theorem yn851 : Cond.instantiable RX1 0 ∈ gt := gt_t (tb_3 19 rfl) rfl
theorem y852 : Cond.methodLinkNest RX4 45 yX3_init "DebtRooms" ∈ tables_1 := tb_3 27 rfl
theorem yn853 : Cond.instantiable RX3 0 ∈ gt := gt_t (tb_3 26 rfl) rfl
theorem y854 : Cond.methodLinkNest RX4 48 yX2_init "DebtRooms" ∈ tables_1 := tb_3 34 rfl
theorem yn855 : Cond.instantiable RX2 0 ∈ gt := gt_t (tb_3 33 rfl) rfl
theorem y856 : Cond.methodLinkNest RX4 36 yX7_init "DebtRooms" ∈ tables_1 := tb_1 83 rfl
theorem y857 : Cond.classLink RX4 21 RX7 ∈ gt := gt_t (tb_1 80 rfl) rfl
theorem yn858 : Cond.instantiable RX7 0 ∈ gt := gt_t (tb_1 82 rfl) rfl
theorem y859 : Cond.methodLinkNest RX6 121 yX4_newOfKind "DebtRooms" ∈ tables_1 := tb_3 8 rfl
theorem y860 : Cond.static yX4_newOfKind ∈ gt := gt_t (tb_3 9 rfl) rfl
theorem y861 : Cond.castable RX8 RX7 ∈ tables_1 := tb_6 164 rfl
theorem y862 : Cond.castable RX1 RX7 ∈ tables_1 := tb_6 165 rfl
theorem y863 : Cond.castable RX3 RX7 ∈ tables_1 := tb_6 166 rfl
theorem y864 : Cond.castable RX2 RX7 ∈ tables_1 := tb_6 167 rfl
theorem dX4_newOfKind_0 : decode cX4_newOfKind 0 = .ok (.iload_n 0, 1) := by decide +kernel
theorem dX4_newOfKind_1 : decode cX4_newOfKind 1 = .ok (.tableswitch 63 1 4 #[31, 39, 47, 55], 31) := by decide +kernel
theorem dX4_newOfKind_32 : decode cX4_newOfKind 32 = .ok (.new 37, 3) := by decide +kernel
theorem dX4_newOfKind_35 : decode cX4_newOfKind 35 = .ok (.dup, 1) := by decide +kernel
theorem dX4_newOfKind_36 : decode cX4_newOfKind 36 = .ok (.invokespecial 39, 3) := by decide +kernel
theorem dX4_newOfKind_39 : decode cX4_newOfKind 39 = .ok (.areturn, 1) := by decide +kernel
theorem dX4_newOfKind_40 : decode cX4_newOfKind 40 = .ok (.new 40, 3) := by decide +kernel
theorem dX4_newOfKind_43 : decode cX4_newOfKind 43 = .ok (.dup, 1) := by decide +kernel
theorem dX4_newOfKind_44 : decode cX4_newOfKind 44 = .ok (.invokespecial 42, 3) := by decide +kernel
theorem dX4_newOfKind_47 : decode cX4_newOfKind 47 = .ok (.areturn, 1) := by decide +kernel
theorem dX4_newOfKind_48 : decode cX4_newOfKind 48 = .ok (.new 43, 3) := by decide +kernel
theorem dX4_newOfKind_51 : decode cX4_newOfKind 51 = .ok (.dup, 1) := by decide +kernel
theorem dX4_newOfKind_52 : decode cX4_newOfKind 52 = .ok (.invokespecial 45, 3) := by decide +kernel
theorem dX4_newOfKind_55 : decode cX4_newOfKind 55 = .ok (.areturn, 1) := by decide +kernel
theorem dX4_newOfKind_56 : decode cX4_newOfKind 56 = .ok (.new 46, 3) := by decide +kernel
theorem dX4_newOfKind_59 : decode cX4_newOfKind 59 = .ok (.dup, 1) := by decide +kernel
theorem dX4_newOfKind_60 : decode cX4_newOfKind 60 = .ok (.invokespecial 48, 3) := by decide +kernel
theorem dX4_newOfKind_63 : decode cX4_newOfKind 63 = .ok (.areturn, 1) := by decide +kernel
theorem dX4_newOfKind_64 : decode cX4_newOfKind 64 = .ok (.new 21, 3) := by decide +kernel
theorem dX4_newOfKind_67 : decode cX4_newOfKind 67 = .ok (.dup, 1) := by decide +kernel
theorem dX4_newOfKind_68 : decode cX4_newOfKind 68 = .ok (.invokespecial 36, 3) := by decide +kernel
theorem dX4_newOfKind_71 : decode cX4_newOfKind 71 = .ok (.areturn, 1) := by decide +kernel
def xkz (x : MC) (k n : Nat) : MC := (xp x, xl x, xe x, xR x, xs x, xm x, xa x, xb x, xM x, xc x, xQ x, xn x, k, n)
/-- the same but for where the people are -/
def Same (E E' : Ek) : Prop := eD E' = eD E ∧ eA E' = eA E ∧ eK E' = eK E ∧ eV E' = eV E ∧ eL E' = eL E ∧ ∀ q, ¬ Prs q → ad E' q = ad E q
theorem Same.rf (E : Ek) : Same E E := ⟨rfl, rfl, rfl, rfl, rfl, fun _ _ => rfl⟩
theorem Same.tr {E F K : Ek} (h : Same E F) (g : Same F K) : Same E K := ⟨g.1.trans h.1, g.2.1.trans h.2.1, g.2.2.1.trans h.2.2.1, g.2.2.2.1.trans h.2.2.2.1, g.2.2.2.2.1.trans h.2.2.2.2.1, fun q hq => (g.2.2.2.2.2 q hq).trans (h.2.2.2.2.2 q hq)⟩
theorem Same.fr {E F : Ek} (h : Same E F) : frE F = frE E := by unfold frE; rw [h.2.2.2.2.1]
theorem Same.ge {E F : Ek} (h : Same E F) {U : State} (g : gE E U) : gE F U := by
  unfold gE gtys at g ⊢
  rw [h.1, h.2.1, h.2.2.1]
  exact g
theorem Same.sr {E F : Ek} (h : Same E F) {U : State} {H : Heap} (g : Str E U H) : Str F U H := by
  unfold Str at g ⊢
  rw [h.fr, h.2.2.1, h.2.2.2.1]
  exact g
theorem Cx.to {E F : Ek} {x : MC} {cc : ByteArray} {nL hm k : Nat} {own : String} (X : Cx E x cc nL own hm) (h : Same E F) (ha : Apart F) (hk : k ≤ (xR x).cells) : Cx F (xkz x k (xz x)) cc nL own hm :=
  ⟨X.ex, X.cb, X.ml, X.nl, X.ow, X.hts, X.lk, X.rm, ⟨hk, X.kz.2⟩, h.ge X.ge, ha, h.sr X.sr, by rw [h.2.2.2.2.1]; exact X.sz⟩
theorem cw_X4_newOfKind : CW yX4_newOfKind cX4_newOfKind 1 (some (.object RX7)) 1 := ⟨y847, m148, Nat.le_of_ble_eq_true rfl, by decide +kernel⟩
set_option maxHeartbeats 4000000 in
theorem c_newOfKind (E : Ek) (l : Launch) (v : Int32) (sz : Nat) : Met l yX4_newOfKind (.code yX4_newOfKind cX4_newOfKind 1 (some (.object RX7)) :: gt) (rmk 4 1 0) (va_Pc [.int v] (Wk E sz [])) (va_Qr (fun _ : Unit => True) (fun _ a t => va_P (eD E) classes [(a, .inr (pcls v, []))] t.heap ∧ sz ≤ a) (fun q => sz ≤ q)) 1 0 (fun q => sz ≤ q) := by
  refine Met.ofW (cc := cX4_newOfKind) (maxL := 1) (ret := some (.object RX7)) (by decide) rfl ?_
  intro p e0 s m args below meth c s₁ B hml hv
  obtain ⟨rfl, hsz, hP, hD, hE, hSt, hlo, hal⟩ := hv
  have hts := atoms_spec (ws := .code yX4_newOfKind cX4_newOfKind 1 (some (.object RX7)) :: gt) B.pre
  have hown : s.vm.findClass RX4 = some m.cls := findClass_of_methodNamed B.named
  have hl := lv_entry [.int v] (n := 1) (Nat.le_of_ble_eq_true rfl)
  rw [lg_entry_eq]
  subst hsz
  generalize hx : ((p, l, e0, (headSpec (.code yX4_newOfKind cX4_newOfKind 1 (some (.object RX7)) :: gt) (rmk 4 1 0)).room, s, m, [Value.int v].toArray, below, meth, c, MQ below (va_Qr (fun _ : Unit => True) (fun _ a t => va_P (eD E) classes [(a, .inr (pcls v, []))] t.heap ∧ s.heap.size ≤ a) (fun q => s.heap.size ≤ q)) [Value.int v].toArray s 1 0 (fun q => s.heap.size ≤ q), 1, 0, 0) : MC) = x
  have X : Kx E x cX4_newOfKind 1 RX4 4 1 0 := by
    subst hx
    exact ⟨B.exec, B.bytes, hml, rfl, hown, fun w hw => hts w (List.mem_cons_of_mem _ hw), B.notSynchronized, ⟨Nat.le_refl _, Nat.le_refl _⟩, ⟨Nat.le_refl _, Nat.le_refl _⟩, hE, hSt, hlo⟩
  have fin : ∀ (q ci : Nat), pcls v = ci → ∀ (pc : Nat), decode cX4_newOfKind pc = .ok (.areturn, 1) → KG E (fun q => s.heap.size ≤ q) x ([] ++ [(q, .inr (ci, []))]) 1 0 pc [(0, .int v)] [.ref q] := by
    intro q ci hci pc hd H locs ls hP hD hS hL
    subst hx
    exact W.aret (rt := .object RX7) B.exec B.bytes B.returns (Or.inl ⟨_, rfl⟩) (Or.inr ⟨_, rfl⟩) (fun t ht hW => ⟨⟨(), q, rfl, trivial, by rw [ht, hci]; exact hP, hD.2 0 _ rfl⟩, hS.F ht⟩) hS.2.2 hd B.notSynchronized
  have main : KG E (fun q => s.heap.size ≤ q) x [] 0 0 0 [(0, .int v)] [] := by
    have hl0 : l = xl x := by subst hx; rfl
    have hh : (xs x).heap = s.heap := by subst hx; rfl
    rw [← hh] at hlo fin ⊢
    subst hl0
    refine kg_iload_n (j := 0) X dX4_newOfKind_0 rfl rfl ?_
    by_cases c1 : v = 1
    · refine kg_tabI (tgt := 32) X dX4_newOfKind_1 c1 ⟨⟨by decide, by decide⟩, rfl⟩ (by decide) ?_
      refine kg_new (ci := 8) (T := TX8) (N := 0) (fs := []) X (fun _ h => h) in_X8 tyX8 tyX8_ok m842 yn849 m141 rfl (fun j hj => absurd hj (Nat.not_lt_zero _)) (Nat.le_of_ble_eq_true rfl) (Nat.le_of_ble_eq_true rfl) dX4_newOfKind_32 (fun q => ?_)
      refine kg_dup X dX4_newOfKind_35 rfl ?_
      refine kg_initN (k := 1) (n := 0) (st := [.ref q]) (wr := []) (As := []) X (fun _ h => h) (fun q h => Nat.le_trans hlo h) (c_X8 E (xl x) q 8) ck_X8_init y848 (by decide) rfl dX4_newOfKind_36 (Nat.le_of_ble_eq_true rfl) (Nat.le_of_ble_eq_true rfl) (Nat.le_of_ble_eq_true rfl) (fun u hu => ?_)
      subst hu
      exact fin q 8 (pcls_1 c1) 39 dX4_newOfKind_39
    by_cases c2 : v = 2
    · refine kg_tabI (tgt := 40) X dX4_newOfKind_1 c2 ⟨⟨by decide, by decide⟩, rfl⟩ (by decide) ?_
      refine kg_new (ci := 1) (T := TX1) (N := 0) (fs := []) X (fun _ h => h) in_X1 tyX1 tyX1_ok m844 yn851 m133 rfl (fun j hj => absurd hj (Nat.not_lt_zero _)) (Nat.le_of_ble_eq_true rfl) (Nat.le_of_ble_eq_true rfl) dX4_newOfKind_40 (fun q => ?_)
      refine kg_dup X dX4_newOfKind_43 rfl ?_
      refine kg_initN (k := 1) (n := 0) (st := [.ref q]) (wr := []) (As := []) X (fun _ h => h) (fun q h => Nat.le_trans hlo h) (c_X1 E (xl x) q) ck_X1_init y850 (by decide) rfl dX4_newOfKind_44 (Nat.le_of_ble_eq_true rfl) (Nat.le_of_ble_eq_true rfl) (Nat.le_of_ble_eq_true rfl) (fun u hu => ?_)
      subst hu
      exact fin q 1 (pcls_2 c2) 47 dX4_newOfKind_47
    by_cases c3 : v = 3
    · refine kg_tabI (tgt := 48) X dX4_newOfKind_1 c3 ⟨⟨by decide, by decide⟩, rfl⟩ (by decide) ?_
      refine kg_new (ci := 3) (T := TX3) (N := 0) (fs := []) X (fun _ h => h) in_X3 tyX3 tyX3_ok m845 yn853 m137 rfl (fun j hj => absurd hj (Nat.not_lt_zero _)) (Nat.le_of_ble_eq_true rfl) (Nat.le_of_ble_eq_true rfl) dX4_newOfKind_48 (fun q => ?_)
      refine kg_dup X dX4_newOfKind_51 rfl ?_
      refine kg_initN (k := 1) (n := 0) (st := [.ref q]) (wr := []) (As := []) X (fun _ h => h) (fun q h => Nat.le_trans hlo h) (c_X3 E (xl x) q) ck_X3_init y852 (by decide) rfl dX4_newOfKind_52 (Nat.le_of_ble_eq_true rfl) (Nat.le_of_ble_eq_true rfl) (Nat.le_of_ble_eq_true rfl) (fun u hu => ?_)
      subst hu
      exact fin q 3 (pcls_3 c3) 55 dX4_newOfKind_55
    by_cases c4 : v = 4
    · refine kg_tabI (tgt := 56) X dX4_newOfKind_1 c4 ⟨⟨by decide, by decide⟩, rfl⟩ (by decide) ?_
      refine kg_new (ci := 2) (T := TX2) (N := 0) (fs := []) X (fun _ h => h) in_X2 tyX2 tyX2_ok m846 yn855 m135 rfl (fun j hj => absurd hj (Nat.not_lt_zero _)) (Nat.le_of_ble_eq_true rfl) (Nat.le_of_ble_eq_true rfl) dX4_newOfKind_56 (fun q => ?_)
      refine kg_dup X dX4_newOfKind_59 rfl ?_
      refine kg_initN (k := 1) (n := 0) (st := [.ref q]) (wr := []) (As := []) X (fun _ h => h) (fun q h => Nat.le_trans hlo h) (c_X2 E (xl x) q) ck_X2_init y854 (by decide) rfl dX4_newOfKind_60 (Nat.le_of_ble_eq_true rfl) (Nat.le_of_ble_eq_true rfl) (Nat.le_of_ble_eq_true rfl) (fun u hu => ?_)
      subst hu
      exact fin q 2 (pcls_4 c4) 63 dX4_newOfKind_63
    refine kg_tabO (tgt := 64) X dX4_newOfKind_1 (by have e1 := lv_neT (a := 1) c1 (by decide); have e2 := lv_neT (a := 2) c2 (by decide); have e3 := lv_neT (a := 3) c3 (by decide); have e4 := lv_neT (a := 4) c4 (by decide); omega) (by decide) ?_
    refine kg_new (ci := 7) (T := TX7) (N := 0) (fs := []) X (fun _ h => h) in_X7 tyX7 tyX7_ok y857 yn858 m139 rfl (fun j hj => absurd hj (Nat.not_lt_zero _)) (Nat.le_of_ble_eq_true rfl) (Nat.le_of_ble_eq_true rfl) dX4_newOfKind_64 (fun q => ?_)
    refine kg_dup X dX4_newOfKind_67 rfl ?_
    refine kg_initN (k := 1) (n := 0) (st := [.ref q]) (wr := []) (As := []) X (fun _ h => h) (fun q h => Nat.le_trans hlo h) (c_X7 E (xl x) q 7) ck_X7_init y856 (by decide) rfl dX4_newOfKind_68 (Nat.le_of_ble_eq_true rfl) (Nat.le_of_ble_eq_true rfl) (Nat.le_of_ble_eq_true rfl) (fun u hu => ?_)
    subst hu
    exact fin q 7 (pcls_0 c1 c2 c3 c4) 71 dX4_newOfKind_71
  subst hx
  exact main s.heap [] _ hP ⟨fun i j p q h => by simp at h, fun k q h => by simp at h⟩ va_S.rf hl
set_option maxHeartbeats 4000000 in
theorem lay_same {E E' : Ek} (h : Same E E') {q : Nat} (hq : q ≠ 7) (f : Nat → Int32) (u : Int64) : lay E' q f u = lay E q f u := by
  have e1 : ad E' 1 = ad E 1 := h.2.2.2.2.2 1 (by unfold Prs; omega)
  have e2 : ad E' 2 = ad E 2 := h.2.2.2.2.2 2 (by unfold Prs; omega)
  have e3 : ad E' 3 = ad E 3 := h.2.2.2.2.2 3 (by unfold Prs; omega)
  have e4 : ad E' 4 = ad E 4 := h.2.2.2.2.2 4 (by unfold Prs; omega)
  have e5 : ad E' 5 = ad E 5 := h.2.2.2.2.2 5 (by unfold Prs; omega)
  have e6 : ad E' 6 = ad E 6 := h.2.2.2.2.2 6 (by unfold Prs; omega)
  have e7 : ad E' 7 = ad E 7 := h.2.2.2.2.2 7 (by unfold Prs; omega)
  have e8 : ad E' 8 = ad E 8 := h.2.2.2.2.2 8 (by unfold Prs; omega)
  have e9 : ad E' 9 = ad E 9 := h.2.2.2.2.2 9 (by unfold Prs; omega)
  have e10 : ad E' 10 = ad E 10 := h.2.2.2.2.2 10 (by unfold Prs; omega)
  have e15 : ad E' 15 = ad E 15 := h.2.2.2.2.2 15 (by unfold Prs; omega)
  have e16 : ad E' 16 = ad E 16 := h.2.2.2.2.2 16 (by unfold Prs; omega)
  have e17 : ad E' 17 = ad E 17 := h.2.2.2.2.2 17 (by unfold Prs; omega)
  have e18 : ad E' 18 = ad E 18 := h.2.2.2.2.2 18 (by unfold Prs; omega)
  have e19 : ad E' 19 = ad E 19 := h.2.2.2.2.2 19 (by unfold Prs; omega)
  have e20 : ad E' 20 = ad E 20 := h.2.2.2.2.2 20 (by unfold Prs; omega)
  have e21 : ad E' 21 = ad E 21 := h.2.2.2.2.2 21 (by unfold Prs; omega)
  have e22 : ad E' 22 = ad E 22 := h.2.2.2.2.2 22 (by unfold Prs; omega)
  have e23 : ad E' 23 = ad E 23 := h.2.2.2.2.2 23 (by unfold Prs; omega)
  have e24 : ad E' 24 = ad E 24 := h.2.2.2.2.2 24 (by unfold Prs; omega)
  have e25 : ad E' 25 = ad E 25 := h.2.2.2.2.2 25 (by unfold Prs; omega)
  have e26 : ad E' 26 = ad E 26 := h.2.2.2.2.2 26 (by unfold Prs; omega)
  have e27 : ad E' 27 = ad E 27 := h.2.2.2.2.2 27 (by unfold Prs; omega)
  have e28 : ad E' 28 = ad E 28 := h.2.2.2.2.2 28 (by unfold Prs; omega)
  have e30 : ad E' 30 = ad E 30 := h.2.2.2.2.2 30 (by unfold Prs; omega)
  have e31 : ad E' 31 = ad E 31 := h.2.2.2.2.2 31 (by unfold Prs; omega)
  have e32 : ad E' 32 = ad E 32 := h.2.2.2.2.2 32 (by unfold Prs; omega)
  have e33 : ad E' 33 = ad E 33 := h.2.2.2.2.2 33 (by unfold Prs; omega)
  have e34 : ad E' 34 = ad E 34 := h.2.2.2.2.2 34 (by unfold Prs; omega)
  have e35 : ad E' 35 = ad E 35 := h.2.2.2.2.2 35 (by unfold Prs; omega)
  have e36 : ad E' 36 = ad E 36 := h.2.2.2.2.2 36 (by unfold Prs; omega)
  have e37 : ad E' 37 = ad E 37 := h.2.2.2.2.2 37 (by unfold Prs; omega)
  have e38 : ad E' 38 = ad E 38 := h.2.2.2.2.2 38 (by unfold Prs; omega)
  have e39 : ad E' 39 = ad E 39 := h.2.2.2.2.2 39 (by unfold Prs; omega)
  have e40 : ad E' 40 = ad E 40 := h.2.2.2.2.2 40 (by unfold Prs; omega)
  have e41 : ad E' 41 = ad E 41 := h.2.2.2.2.2 41 (by unfold Prs; omega)
  have e42 : ad E' 42 = ad E 42 := h.2.2.2.2.2 42 (by unfold Prs; omega)
  have e43 : ad E' 43 = ad E 43 := h.2.2.2.2.2 43 (by unfold Prs; omega)
  have e44 : ad E' 44 = ad E 44 := h.2.2.2.2.2 44 (by unfold Prs; omega)
  have e45 : ad E' 45 = ad E 45 := h.2.2.2.2.2 45 (by unfold Prs; omega)
  have e46 : ad E' 46 = ad E 46 := h.2.2.2.2.2 46 (by unfold Prs; omega)
  have e47 : ad E' 47 = ad E 47 := h.2.2.2.2.2 47 (by unfold Prs; omega)
  have e48 : ad E' 48 = ad E 48 := h.2.2.2.2.2 48 (by unfold Prs; omega)
  have e49 : ad E' 49 = ad E 49 := h.2.2.2.2.2 49 (by unfold Prs; omega)
  have e50 : ad E' 50 = ad E 50 := h.2.2.2.2.2 50 (by unfold Prs; omega)
  have e51 : ad E' 51 = ad E 51 := h.2.2.2.2.2 51 (by unfold Prs; omega)
  have e52 : ad E' 52 = ad E 52 := h.2.2.2.2.2 52 (by unfold Prs; omega)
  have e53 : ad E' 53 = ad E 53 := h.2.2.2.2.2 53 (by unfold Prs; omega)
  have e54 : ad E' 54 = ad E 54 := h.2.2.2.2.2 54 (by unfold Prs; omega)
  have e55 : ad E' 55 = ad E 55 := h.2.2.2.2.2 55 (by unfold Prs; omega)
  have e56 : ad E' 56 = ad E 56 := h.2.2.2.2.2 56 (by unfold Prs; omega)
  have e57 : ad E' 57 = ad E 57 := h.2.2.2.2.2 57 (by unfold Prs; omega)
  have e58 : ad E' 58 = ad E 58 := h.2.2.2.2.2 58 (by unfold Prs; omega)
  have e59 : ad E' 59 = ad E 59 := h.2.2.2.2.2 59 (by unfold Prs; omega)
  have e67 : ad E' 67 = ad E 67 := h.2.2.2.2.2 67 (by unfold Prs; omega)
  have e75 : ad E' 75 = ad E 75 := h.2.2.2.2.2 75 (by unfold Prs; omega)
  have el : (fun j => some (ad E' (83 + 8 * j))) = fun j => some (ad E (83 + 8 * j)) := funext fun j => by rw [h.2.2.2.2.2 (83 + 8 * j) (by unfold Prs; omega)]
  have hM : layM E' f u = layM E f u := by
    unfold layM
    simp only [e1, e2, e3, e4, e5, e6, e7, e8, e9, e10, e15, e16, e17, e18, e19, e20, e21, e22, e23, e24, e25, e26, e27, e28, e30, e31, e32, e33, e34, e35, e36, e37, e38, e39, e40, e41, e42, e43, e44, e45, e46, e47, e48, e49, e50, e51, e52, e53, e54, e55, e56, e57, e58, e59, e67, e75]
  have hL : layL E' f = (layL E f).set 7 (.inl (eA E 2, 4, .inr (.inr (.inr (.inr (fun j => some (ad E' (11 + j)))))))) := by
    unfold layL
    simp only [h.2.1, el, e1, e2, e3, e4, e5, e6, e7, e8, e9, e10, e15, e16, e17, e18, e19, e20, e21, e22, e23, e24, e25, e26, e27, e28, e30, e31, e32, e33, e34, e35, e36, e37, e38, e39, e40, e41, e42, e43, e44, e45, e46, e47, e48, e49, e50, e51, e52, e53, e54, e55, e56, e57, e58, e59, e67, e75]
    rfl
  unfold lay
  rw [hM, hL]
  cases h29 : Nat.beq q 29 with
  | true => rfl
  | false =>
    cases h59 : Nat.blt q 59 with
    | true =>
      show (List.set (layL E f) 7 _).getD q _ = (layL E f).getD q _
      rw [List.getD_eq_getElem?_getD, List.getD_eq_getElem?_getD, List.getElem?_set_ne (Ne.symm hq)]
    | false =>
      have hge : 59 ≤ q := by
        rcases Nat.lt_or_ge q 59 with z | z
        · rw [Nat.blt_eq.mpr z] at h59; cases h59
        · exact z
      have hA : layA E' q f = layA E q f := by
        unfold layA
        simp only [h.2.1, e3, h.2.2.2.2.2 (q + 1) (by unfold Prs; omega), h.2.2.2.2.2 (q + 2) (by unfold Prs; omega), h.2.2.2.2.2 (q + 3) (by unfold Prs; omega), h.2.2.2.2.2 (q + 4) (by unfold Prs; omega), h.2.2.2.2.2 (q + 5) (by unfold Prs; omega), h.2.2.2.2.2 (q + 6) (by unfold Prs; omega), h.2.2.2.2.2 (q + 7) (by unfold Prs; omega)]
      show (layA E' q f).getD _ _ = (layA E q f).getD _ _
      rw [hA]
def setP (E : Ek) (p a : Nat) : Ek := (E.1, E.2.1, (fun q => if q = p then a else ad E q), E.2.2.2.1, E.2.2.2.2.1, E.2.2.2.2.2)
theorem setP_ad (E : Ek) (p a q : Nat) : ad (setP E p a) q = if q = p then a else ad E q := rfl
theorem setP_same {E : Ek} {p a : Nat} (hp : Prs p) : Same E (setP E p a) := ⟨rfl, rfl, rfl, rfl, rfl, fun q hq => by rw [setP_ad, if_neg (fun z => hq (by rw [z]; exact hp))]⟩
section NewP
variable {E : Ek} {x : MC} {cc : ByteArray} {nL hm pc : Nat} {M : Mem} {lv : List (Nat × Value)} {st : List Value}
theorem any_of (X : Cx E x cc nL RX6 hm) {v : Int32} {ra : Nat} {H : Heap} (hP : va_P (eD E) classes [(ra, .inr (pcls v, []))] H) : va_Any RX7 (xs x) H ra := by
  have key : ∀ (C : String) (T : u_T) (i : Nat), pcls v = i → classes[i]? = some (C, T, 0) → va_Nw (.castable C RX7) (xs x) → va_Any RX7 (xs x) H ra := by
    intro C T i hi hc hn
    obtain ⟨c0, t0, f1, f2, f3⟩ := Cond.castable_spec (va_Nw.use (A := xa x) rfl hn)
    refine va_rAny (r := (C, T, 0)) X.ge.1 hP (q0 := 0) rfl (by rw [hi]; exact hc) (fun comp c1 h1 h2 => ?_)
    cases f1.symm.trans h2
    cases f2.symm.trans h1
    exact f3
  by_cases c1 : v = 1
  · exact key RX8 TX8 8 (pcls_1 c1) rfl (X.ge.2.1 _ y861 rfl)
  by_cases c2 : v = 2
  · exact key RX1 TX1 1 (pcls_2 c2) rfl (X.ge.2.1 _ y862 rfl)
  by_cases c3 : v = 3
  · exact key RX3 TX3 3 (pcls_3 c3) rfl (X.ge.2.1 _ y863 rfl)
  by_cases c4 : v = 4
  · exact key RX2 TX2 2 (pcls_4 c4) rfl (X.ge.2.1 _ y864 rfl)
  refine va_rAny (r := (RX7, TX7, 0)) X.ge.1 hP (q0 := 0) rfl (by rw [pcls_0 c1 c2 c3 c4]; rfl) (fun comp c1 h1 h2 => ?_)
  cases h1.symm.trans h2
  have hc := (X.ge.1.1 7 _ rfl).2
  cases hc.1.symm.trans h1
  exact va_assign hc
set_option maxHeartbeats 4000000 in
/-- a new person of a kind takes a place -/
theorem g_newP (X : Cx E x cc nL RX6 hm) {i v : Int32} {A : Mem → Prop} (hr : 4 < hm) (hW : ((.int i :: .ref (ad E 7) :: st : List Value).map fun v => v.category).sum ≤ 8) (hk : xk x + 1 ≤ (xR x).cells) (hd1 : decode cc pc = .ok (.invokestatic 121, 3)) (hd2 : decode cc (pc + 3) = .ok (.aastore, 1)) (h : vp_in i 4 ∧ ∀ M1, M1 = wr M (11 + i.toNatClampNeg) 0 v → A M1) (kk : ∀ (F : Ek) (M1 : Mem), Same E F → Apart F → A M1 → G F (xkz x (xk x + 1) (xz x)) M1 (pc + 4) lv st) : G E x M pc lv (.int v :: .int i :: .ref (ad E 7) :: st) := fun H locs ls hP hS hL => by
  have hpre : PreS (xs x) H (va_Pc [.int v] (Wk E H.size [])) [.int v] := ⟨fun a U g mk h => ⟨h.1, Wk.calling a U g mk h.2⟩, fun U hU hW => ⟨rfl, by rw [hU], fun k q h => by simp at h, ⟨fun i j p q h => by simp at h, fun k q h => by simp at h⟩, gE.warm hW X.ge, by rw [hU]; exact (X.sr.moved hW.alike).kept hS.2.1, by rw [hU]; exact Nat.le_trans X.sz hS.1, fun k q h => by simp at h⟩⟩
  have hroom : (rmk 4 1 0).frames + 1 ≤ (xR x).frames ∧ 8 + (1 + 11) + (rmk 4 1 0).locals ≤ (xR x).locals := by
    have h := X.rm
    refine ⟨?_, ?_⟩
    · show 4 + 1 ≤ _; omega
    · show 8 + (1 + 11) + 40 * 4 ≤ _; omega
  refine va_callr (A1 := fun q => H.size ≤ q) (va_runSN (As := [.int v]) (rest := .int i :: .ref (ad E 7) :: st) ⟨X.ex, X.cb, X.ml, X.ow, X.hts⟩ (c_newOfKind E (xl x) v H.size) ⟨va_cnB 1 X.hts (gt_GI cw_X4_newOfKind.1) rfl rfl rfl (X.ge.2.1 _ y859 rfl) (X.hts _ cw_X4_newOfKind.2.1) cw_X4_newOfKind.2.2.2 hroom, X.hts _ y860, trivial⟩ hpre rfl rfl (hL.1.trans X.nl) rfl (lv_room hW) hd1 ⟨hk, X.kz.2⟩) hS (fun q h1 h2 => absurd h2 (Nat.not_le.mpr h1)) (fun q h => Nat.le_trans (Nat.le_trans X.sz hS.1) h) (fun u ra t H1 locs1 ht hvm hw hB hz1 hk1 hS1 => ?_)
  obtain ⟨hB1, hB2⟩ := hB
  rw [ht] at hB1
  have hlt : ∀ q, q < 123 → ad E q < H.size := fun q hq => (hP q _ (ws_at hq)).lt
  have hP1 : va_P (eD E) classes (ws E M) H1 := hP.kept (fun k q hq => hk1 q.1 (hP k q hq).lt (Nat.not_le.mpr (hP k q hq).lt))
  have hPP := hP1.app hB1
  have hsing : va_D (frE E) [(ra, (.inr (pcls v, []) : va_E))] := ⟨fun i j p q hi hj _ => by
    have h1 : i < 1 := (List.getElem?_eq_some_iff.mp hi).1
    have h2 : j < 1 := (List.getElem?_eq_some_iff.mp hj).1
    omega, fun k q hk => by
    have h1 : k < 1 := (List.getElem?_eq_some_iff.mp hk).1
    have : k = 0 := by omega
    subst this
    cases hk
    exact Nat.le_trans (Nat.le_trans X.sz hS.1) hB2⟩
  have hDD : va_D (frE E) (ws E M ++ [(ra, (.inr (pcls v, []) : va_E))]) := va_D.app (ws_D X.ap) hsing (fun i j p q hp hq e => by
    have h1 : j < 1 := (List.getElem?_eq_some_iff.mp hq).1
    have : j = 0 := by omega
    subst this
    cases hq
    have := (hP i p hp).lt
    rw [e] at this
    exact absurd hB2 (Nat.not_le.mpr this))
  have hlen : (ws E M).length = 123 := by simp [ws]
  have h7 : (ws E M ++ [(ra, (.inr (pcls v, []) : va_E))])[7]? = some (ad E 7, .inl (eA E 2, 4, .inr (.inr (.inr (.inr (fun j => some (ad E (11 + j)))))))) := by
    rw [List.getElem?_append_left (by rw [hlen]; omega), ws_at (by omega)]
    rfl
  have hi4 := vp_lt h.1
  refine va_astqM (E := RX7) X.ex X.cb X.ge.1 hPP hDD hS1 7 2 h7 rfl (any_of X hB1) h.1 hd2 (fun H2 locs2 hP2 hD2 hS2 => ?_)
  have hsm : Same E (setP E (11 + i.toNatClampNeg) ra) := setP_same (prs_of h.1)
  refine kk (setP E (11 + i.toNatClampNeg) ra) _ hsm ?_ (h.2 _ rfl) H2 locs2 ls ?_ ?_ hL
  · refine ⟨fun a b ha hb hab => ?_, fun a ha => ?_⟩
    · rw [setP_ad, setP_ad] at hab
      by_cases e1 : a = 11 + i.toNatClampNeg <;> by_cases e2 : b = 11 + i.toNatClampNeg
      · omega
      · rw [if_pos e1, if_neg e2] at hab
        have := hlt b hb
        omega
      · rw [if_neg e1, if_pos e2] at hab
        have := hlt a ha
        omega
      · rw [if_neg e1, if_neg e2] at hab
        exact X.ap.1 a b ha hb hab
    · rw [setP_ad]
      by_cases e1 : a = 11 + i.toNatClampNeg
      · rw [if_pos e1]; exact Nat.le_trans (Nat.le_trans X.sz hS.1) hB2
      · rw [if_neg e1]; exact X.ap.2 a ha
  · intro k q hk
    have hk' : k < 123 := by
      have := (List.getElem?_eq_some_iff.mp hk).1
      simpa [ws] using this
    rw [ws_at hk'] at hk
    cases hk
    by_cases e7 : k = 7
    · subst e7
      have e0 : ((7 : Nat) = 11 + i.toNatClampNeg) = False := eq_false (by omega)
      have := hP2 7 _ (List.getElem?_set_self (by rw [List.length_append, hlen]; show 7 < 123 + 1; omega))
      have ef : (va_up (fun j => some (ad E (11 + j))) i.toNatClampNeg (some ra)) = fun j => some (ad (setP E (11 + i.toNatClampNeg) ra) (11 + j)) := funext fun j => by
        rw [setP_ad]
        unfold va_up
        by_cases ej : j = i.toNatClampNeg
        · rw [if_pos ej, if_pos (by omega)]
        · rw [if_neg ej, if_neg (by omega)]
      rw [ef] at this
      have ea : ad (setP E (11 + i.toNatClampNeg) ra) 7 = ad E 7 := by rw [setP_ad, if_neg (by omega)]
      rw [ea]
      exact this
    · by_cases ep : k = 11 + i.toNatClampNeg
      · have hat : ((ws E M ++ [(ra, (.inr (pcls v, []) : va_E))]).set 7 (ad E 7, .inl (eA E 2, 4, .inr (.inr (.inr (.inr (va_up (fun j => some (ad E (11 + j))) i.toNatClampNeg (some ra))))))))[123]? = some (ra, (.inr (pcls v, []) : va_E)) := by
          rw [List.getElem?_set_ne (by omega), List.getElem?_append_right (by rw [hlen]; exact Nat.le_refl _), hlen]
          rfl
        have := hP2 123 _ hat
        rw [prs_lay (by rw [ep]; exact prs_of h.1)]
        have e1 : (wr M (11 + i.toNatClampNeg) 0 v).1 k 0 = v := by rw [ep, wr_self]; rfl
        have e2 : ad (setP E (11 + i.toNatClampNeg) ra) k = ra := by rw [setP_ad, if_pos ep]
        rw [e1, e2]
        exact this
      · have hat : ((ws E M ++ [(ra, (.inr (pcls v, []) : va_E))]).set 7 (ad E 7, .inl (eA E 2, 4, .inr (.inr (.inr (.inr (va_up (fun j => some (ad E (11 + j))) i.toNatClampNeg (some ra))))))))[k]? = some (ad E k, lay E k (M.1 k) M.2) := by
          rw [List.getElem?_set_ne (Ne.symm e7), List.getElem?_append_left (by rw [hlen]; exact hk'), ws_at hk']
        have := hP2 k _ hat
        rw [lay_same hsm e7]
        have e2 : ad (setP E (11 + i.toNatClampNeg) ra) k = ad E k := by rw [setP_ad, if_neg ep]
        have e3 : (wr M (11 + i.toNatClampNeg) 0 v).1 k = M.1 k := wr_ne ep
        rw [e2, e3]
        exact this
  · rw [hsm.fr]
    exact hS2
end NewP
