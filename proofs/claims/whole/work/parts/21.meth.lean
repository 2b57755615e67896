theorem cw_X6_takes : CW yX6_takes cX6_takes 2 (some .boolean) 1 := ⟨m96, m3, Nat.le_of_ble_eq_true rfl, by decide +kernel⟩
def wp_X6_takes (Post : Int32 → Mem → Prop) (M : Mem) (v1 : Int32) : Prop :=
 ((rd M 1 4) = 0 →
  wp_X6_takesInRooms (fun r1 M2 =>
   zb r1 ∧ Post r1 M2) M v1) ∧
 ((rd M 1 4) = 1 →
  wp_X6_takesInDoors (fun r3 M4 =>
   zb r3 ∧ Post r3 M4) M v1) ∧
 ((rd M 1 4) = 2 →
  wp_X6_takesInPeople (fun r5 M6 =>
   zb r5 ∧ Post r5 M6) M v1) ∧
 (¬ (rd M 1 4) = 0 → ¬ (rd M 1 4) = 1 → ¬ (rd M 1 4) = 2 → 
  wp_X6_takesInDebts (fun r7 M8 =>
   zb r7 ∧ Post r7 M8) M v1)
theorem w_X6_takes (E : Ek) (l : Launch) {v1 : Int32} {M : Mem} {Post : Int32 → Mem → Prop} (h : wp_X6_takes Post M v1) : ctI E l yX6_takes cX6_takes 2 (some .boolean) 6 [.ref (ad E 1), .int v1] M Post := by
  refine ct_of (by decide) (Nat.le_of_ble_eq_true rfl) (fun x X hQ => ?_)
  change G E x M 0 [(0, .ref (ad E 1)), (1, .int v1)] []
  refine g_aload_n X dX6_takes_0 rfl 0 rfl ?_
  refine fg_X6_19 X dX6_takes_1 ?_
  by_cases c0 : (rd M 1 4) = 0
  · have h := h.1 c0
    refine g_tabI (tgt := 32) X dX6_takes_4 c0 ⟨⟨by decide, by decide⟩, rfl⟩ (by decide) ?_
    refine g_aload_n X dX6_takes_32 rfl 0 rfl ?_
    refine g_iload_n X dX6_takes_33 rfl 1 rfl ?_
    refine cl_X6_51 X (by decide) (Nat.le_of_ble_eq_true rfl) dX6_takes_34 h (fun r1 M2 h => ?_)
    exact g_zret X hQ dX6_takes_37 h
  by_cases c1 : (rd M 1 4) = 1
  · have h := h.2.1 c1
    refine g_tabI (tgt := 38) X dX6_takes_4 c1 ⟨⟨by decide, by decide⟩, rfl⟩ (by decide) ?_
    refine g_aload_n X dX6_takes_38 rfl 0 rfl ?_
    refine g_iload_n X dX6_takes_39 rfl 1 rfl ?_
    refine cl_X6_54 X (by decide) (Nat.le_of_ble_eq_true rfl) dX6_takes_40 h (fun r3 M4 h => ?_)
    exact g_zret X hQ dX6_takes_43 h
  by_cases c2 : (rd M 1 4) = 2
  · have h := h.2.2.1 c2
    refine g_tabI (tgt := 44) X dX6_takes_4 c2 ⟨⟨by decide, by decide⟩, rfl⟩ (by decide) ?_
    refine g_aload_n X dX6_takes_44 rfl 0 rfl ?_
    refine g_iload_n X dX6_takes_45 rfl 1 rfl ?_
    refine cl_X6_57 X (by decide) (Nat.le_of_ble_eq_true rfl) dX6_takes_46 h (fun r5 M6 h => ?_)
    exact g_zret X hQ dX6_takes_49 h
  have h := h.2.2.2 c0 c1 c2
  refine g_tabO (tgt := 50) X dX6_takes_4 (by have e0 := lv_neT (a := 0) c0 (by decide); have e1 := lv_neT (a := 1) c1 (by decide); have e2 := lv_neT (a := 2) c2 (by decide); omega) (by decide) ?_
  refine g_aload_n X dX6_takes_50 rfl 0 rfl ?_
  refine g_iload_n X dX6_takes_51 rfl 1 rfl ?_
  refine cl_X6_60 X (by decide) (Nat.le_of_ble_eq_true rfl) dX6_takes_52 h (fun r7 M8 h => ?_)
  exact g_zret X hQ dX6_takes_55 h
theorem cl_X6_44 {E : Ek} {x : MC} {cc : ByteArray} {nL hm pc : Nat} {M : Mem} {lv : List (Nat × Value)} {st : List Value} (X : Cx E x cc nL RX6 hm) {v1 : Int32} {Post : Int32 → Mem → Prop} (hr : 6 < hm) (hW : (st.map fun v => v.category).sum ≤ 8) (hd : decode cc pc = .ok (.invokevirtual 44, 3)) (h : wp_X6_takes Post M v1) (kk : ∀ r M1, Post r M1 → G E x M1 (pc + 3) lv (.int r :: st)) : G E x M pc lv (.int v1 :: .ref (ad E 1) :: st) := k_I (fun hP hS hL => run_V X (w_X6_takes E (xl x)  h) cw_X6_takes m99 m100 m101 (⟨by decide, fun E f h => ⟨_, _, _, rfl, rfl, rfl⟩⟩ : OC 1 RX6) hr rfl hd hW hP hS hL) kk
theorem cw_X6_scan : CW yX6_scan cX6_scan 2 none 0 := ⟨m102, m3, Nat.le_of_ble_eq_true rfl, by decide +kernel⟩
def wp_X6_scan_b42 (Post : Mem → Prop) (P42 : Mem → Int32 → Prop) (M : Mem) (v1 : Int32) : Prop :=
 ((rd M 1 1) ≤ v1 →
  ∀ M9 : Mem, M9 = wr M 1 2 (rd M 1 1) →
  (¬ (rd M9 1 4) = 3 →
   ∀ M10 : Mem, M10 = wr M9 1 3 0 →
   Post M10) ∧
  ((rd M9 1 4) = 3 →
   (¬ (rd M9 1 5) = 4 →
    ∀ M11 : Mem, M11 = wr M9 1 3 0 →
    Post M11) ∧
   ((rd M9 1 5) = 4 →
    ∀ M12 : Mem, M12 = wr M9 1 3 1 →
    Post M12))) ∧
 (¬ (rd M 1 1) ≤ v1 →
  vp_in v1 64 ∧
  wp_X6_takes (fun r13 M14 =>
   (¬ r13 = 0 →
    ∀ x1_15 : Int32, x1_15 = v1 + 1 →
    P42 M14 x1_15) ∧
   (r13 = 0 →
    ∀ M16 : Mem, M16 = wr M14 1 2 v1 →
    Post M16)) M (((rd M 2 v1.toNatClampNeg).toUInt32 % 65536).toInt32))
def wp_X6_scan (Post : Mem → Prop) (M : Mem) : Prop :=
 ∀ (P42 : Mem → Int32 → Prop) ,
  (∀ (M : Mem) (v1 : Int32), wp_X6_scan_b42 Post P42 M v1 → P42 M v1) →
 ∀ M1 : Mem, M1 = wr M 1 4 0 →
 ∀ M2 : Mem, M2 = wr M1 1 5 0 →
 ∀ M3 : Mem, M3 = wr M2 1 6 0 →
 ∀ M4 : Mem, M4 = wr M3 1 7 0 →
 ∀ M5 : Mem, M5 = wr M4 1 8 0 →
 ∀ M6 : Mem, M6 = wr M5 1 9 0 →
 ∀ M7 : Mem, M7 = wr M6 1 10 0 →
 ∀ M8 : Mem, M8 = wr M7 1 3 0 →
 P42 M8 0
theorem k_X6_scan_b42 {E : Ek} {x : MC} (X : Cx E x cX6_scan 2 RX6 7) {Post : Mem → Prop} (hQ : QV E x Post none) {M : Mem} {v1 : Int32} (h : wp_X6_scan_b42 Post (fun M v1 => G E x M 42 [(0, .ref (ad E 1)), (1, .int v1)] []) M v1) : G E x M 42 [(0, .ref (ad E 1)), (1, .int v1)] [] := by
  refine g_iload_n X dX6_scan_42 rfl 1 rfl ?_
  refine g_aload_n X dX6_scan_43 rfl 0 rfl ?_
  refine fg_X6_15 X dX6_scan_44 ?_
  refine g_icmpge (tgt := 76) X dX6_scan_47 (by decide) h (fun h => ?_) (fun h => ?_)
  · refine g_aload_n X dX6_scan_76 rfl 0 rfl ?_
    refine g_aload_n X dX6_scan_77 rfl 0 rfl ?_
    refine fg_X6_15 X dX6_scan_78 ?_
    refine fp_X6_48 X dX6_scan_81 h (fun M9 h => ?_)
    refine g_aload_n X dX6_scan_84 rfl 0 rfl ?_
    refine g_aload_n X dX6_scan_85 rfl 0 rfl ?_
    refine fg_X6_19 X dX6_scan_86 ?_
    refine g_iconst (v := 3) X dX6_scan_89 (by decide) ?_
    refine g_icmpne (tgt := 105) X dX6_scan_90 (by decide) h (fun h => ?_) (fun h => ?_)
    · refine g_iconst (v := 0) X dX6_scan_105 (by decide) ?_
      refine fp_X6_40 X (Or.inl rfl) dX6_scan_106 h (fun M10 h => ?_)
      exact g_vret X hQ dX6_scan_109 h
    · refine g_aload_n X dX6_scan_93 rfl 0 rfl ?_
      refine fg_X6_22 X dX6_scan_94 ?_
      refine g_iconst (v := 4) X dX6_scan_97 (by decide) ?_
      refine g_icmpne (tgt := 105) X dX6_scan_98 (by decide) h (fun h => ?_) (fun h => ?_)
      · refine g_iconst (v := 0) X dX6_scan_105 (by decide) ?_
        refine fp_X6_40 X (Or.inl rfl) dX6_scan_106 h (fun M11 h => ?_)
        exact g_vret X hQ dX6_scan_109 h
      · refine g_iconst (v := 1) X dX6_scan_101 (by decide) ?_
        refine g_goto (tgt := 106) X dX6_scan_102 (by decide) ?_
        refine fp_X6_40 X (Or.inr rfl) dX6_scan_106 h (fun M12 h => ?_)
        exact g_vret X hQ dX6_scan_109 h
  · refine g_aload_n X dX6_scan_50 rfl 0 rfl ?_
    refine g_aload_n X dX6_scan_51 rfl 0 rfl ?_
    refine fg_X6_9 X dX6_scan_52 ?_
    refine g_iload_n X dX6_scan_55 rfl 1 rfl ?_
    refine g_iald X ia_2 dX6_scan_56 h (fun h => ?_)
    refine g_i2c X dX6_scan_57 ?_
    refine cl_X6_44 X (by decide) (Nat.le_of_ble_eq_true rfl) dX6_scan_58 h (fun r13 M14 h => ?_)
    refine g_ifne (tgt := 70) X dX6_scan_61 (by decide) h (fun h => ?_) (fun h => ?_)
    · refine g_iinc (w := 1) X dX6_scan_70 1 rfl (by decide) (Nat.le_of_ble_eq_true rfl) rfl (fun x1_15 => [(0, .ref (ad E 1)), (1, .int x1_15)]) (fun _ => rfl) h (fun x1_15 h => ?_)
      refine g_goto (tgt := 42) X dX6_scan_73 (by decide) ?_
      exact h
    · refine g_aload_n X dX6_scan_64 rfl 0 rfl ?_
      refine g_iload_n X dX6_scan_65 rfl 1 rfl ?_
      refine fp_X6_48 X dX6_scan_66 h (fun M16 h => ?_)
      exact g_vret X hQ dX6_scan_69 h
theorem w_X6_scan (E : Ek) (l : Launch) {M : Mem} {Post : Mem → Prop} (h : wp_X6_scan Post M ) : ctV E l yX6_scan cX6_scan 2 none 7 [.ref (ad E 1)] M Post := by
  refine ct_of (by decide) (Nat.le_of_ble_eq_true rfl) (fun x X hQ => ?_)
  have h := h (fun M v1 => G E x M 42 [(0, .ref (ad E 1)), (1, .int v1)] []) (fun M v1 h => k_X6_scan_b42 X hQ  h)
  change G E x M 0 [(0, .ref (ad E 1))] []
  refine g_aload_n X dX6_scan_0 rfl 0 rfl ?_
  refine g_iconst (v := 0) X dX6_scan_1 (by decide) ?_
  refine fp_X6_19 X dX6_scan_2 h (fun M1 h => ?_)
  refine g_aload_n X dX6_scan_5 rfl 0 rfl ?_
  refine g_iconst (v := 0) X dX6_scan_6 (by decide) ?_
  refine fp_X6_22 X dX6_scan_7 h (fun M2 h => ?_)
  refine g_aload_n X dX6_scan_10 rfl 0 rfl ?_
  refine g_iconst (v := 0) X dX6_scan_11 (by decide) ?_
  refine fp_X6_25 X dX6_scan_12 h (fun M3 h => ?_)
  refine g_aload_n X dX6_scan_15 rfl 0 rfl ?_
  refine g_iconst (v := 0) X dX6_scan_16 (by decide) ?_
  refine fp_X6_28 X dX6_scan_17 h (fun M4 h => ?_)
  refine g_aload_n X dX6_scan_20 rfl 0 rfl ?_
  refine g_iconst (v := 0) X dX6_scan_21 (by decide) ?_
  refine fp_X6_31 X dX6_scan_22 h (fun M5 h => ?_)
  refine g_aload_n X dX6_scan_25 rfl 0 rfl ?_
  refine g_iconst (v := 0) X dX6_scan_26 (by decide) ?_
  refine fp_X6_34 X dX6_scan_27 h (fun M6 h => ?_)
  refine g_aload_n X dX6_scan_30 rfl 0 rfl ?_
  refine g_iconst (v := 0) X dX6_scan_31 (by decide) ?_
  refine fp_X6_37 X dX6_scan_32 h (fun M7 h => ?_)
  refine g_aload_n X dX6_scan_35 rfl 0 rfl ?_
  refine g_iconst (v := 0) X dX6_scan_36 (by decide) ?_
  refine fp_X6_40 X (Or.inl rfl) dX6_scan_37 h (fun M8 h => ?_)
  refine g_iconst (v := 0) X dX6_scan_40 (by decide) ?_
  refine g_istore_n (lv' := [(0, .ref (ad E 1)), (1, .int 0)]) X dX6_scan_41 rfl (Nat.le_of_ble_eq_true rfl) rfl rfl ?_
  exact h
theorem cl_X11_74 {E : Ek} {x : MC} {cc : ByteArray} {nL hm pc : Nat} {M : Mem} {lv : List (Nat × Value)} {st : List Value} (X : Cx E x cc nL RX11 hm) {Post : Mem → Prop} (hr : 7 < hm) (hW : (st.map fun v => v.category).sum ≤ 8) (hd : decode cc pc = .ok (.invokevirtual 74, 3)) (h : wp_X6_scan Post M ) (kk : ∀ M1, Post M1 → G E x M1 (pc + 3) lv st) : G E x M pc lv (.ref (ad E 1) :: st) := k_V (fun hP hS hL => run_VN X (w_X6_scan E (xl x)  h) cw_X6_scan m103 m104 m105 (⟨by decide, fun E f h => ⟨_, _, _, rfl, rfl, rfl⟩⟩ : OC 1 RX6) hr rfl hd hW hP hS hL) kk
theorem cw_X11_fault : CW yX11_fault cX11_fault 1 (some .int) 0 := ⟨m107, m10, Nat.le_of_ble_eq_true rfl, by decide +kernel⟩
def wp_X11_fault (Post : Int32 → Mem → Prop) (M : Mem) : Prop :=
 wp_X6_scan (fun M2 =>
  Post (rd M2 1 2) M2) M 
theorem w_X11_fault (E : Ek) (l : Launch) {M : Mem} {Post : Int32 → Mem → Prop} (h : wp_X11_fault Post M ) : ctI E l yX11_fault cX11_fault 1 (some .int) 8 [.ref (ad E 0)] M Post := by
  refine ct_of (by decide) (Nat.le_of_ble_eq_true rfl) (fun x X hQ => ?_)
  change G E x M 0 [(0, .ref (ad E 0))] []
  refine g_aload_n X dX11_fault_0 rfl 0 rfl ?_
  refine fg_X11_10 X dX11_fault_1 ?_
  refine cl_X11_74 X (by decide) (Nat.le_of_ble_eq_true rfl) dX11_fault_4 h (fun M2 h => ?_)
  refine g_aload_n X dX11_fault_7 rfl 0 rfl ?_
  refine fg_X11_10 X dX11_fault_8 ?_
  refine fg_X11_77 X dX11_fault_11 ?_
  exact g_iret X hQ dX11_fault_14 h
theorem cw_X6_digitAt : CW yX6_digitAt cX6_digitAt 2 (some .int) 1 := ⟨m108, m3, Nat.le_of_ble_eq_true rfl, by decide +kernel⟩
def wp_X6_digitAt (Post : Int32 → Mem → Prop) (M : Mem) (v1 : Int32) : Prop :=
 (v1 < 0 →
  Post 0 M) ∧
 (¬ v1 < 0 →
  (64 ≤ v1 →
   Post 0 M) ∧
  (¬ 64 ≤ v1 →
   vp_in v1 64 ∧
   Post ((rd M 2 v1.toNatClampNeg) - 48) M))
theorem w_X6_digitAt (E : Ek) (l : Launch) {v1 : Int32} {M : Mem} {Post : Int32 → Mem → Prop} (h : wp_X6_digitAt Post M v1) : ctI E l yX6_digitAt cX6_digitAt 2 (some .int) 1 [.ref (ad E 1), .int v1] M Post := by
  refine ct_of (by decide) (Nat.le_of_ble_eq_true rfl) (fun x X hQ => ?_)
  change G E x M 0 [(0, .ref (ad E 1)), (1, .int v1)] []
  refine g_iload_n X dX6_digitAt_0 rfl 1 rfl ?_
  refine g_iflt (tgt := 22) X dX6_digitAt_1 (by decide) h (fun h => ?_) (fun h => ?_)
  · refine g_iconst (v := 0) X dX6_digitAt_22 (by decide) ?_
    exact g_iret X hQ dX6_digitAt_23 h
  · refine g_iload_n X dX6_digitAt_4 rfl 1 rfl ?_
    refine g_bipush (v := 64) X dX6_digitAt_5 (by decide) ?_
    refine g_icmpge (tgt := 22) X dX6_digitAt_7 (by decide) h (fun h => ?_) (fun h => ?_)
    · refine g_iconst (v := 0) X dX6_digitAt_22 (by decide) ?_
      exact g_iret X hQ dX6_digitAt_23 h
    · refine g_aload_n X dX6_digitAt_10 rfl 0 rfl ?_
      refine fg_X6_9 X dX6_digitAt_11 ?_
      refine g_iload_n X dX6_digitAt_14 rfl 1 rfl ?_
      refine g_iald X ia_2 dX6_digitAt_15 h (fun h => ?_)
      refine g_bipush (v := 48) X dX6_digitAt_16 (by decide) ?_
      refine g_isub X dX6_digitAt_18 ?_
      refine g_goto (tgt := 23) X dX6_digitAt_19 (by decide) ?_
      exact g_iret X hQ dX6_digitAt_23 h
theorem cl_X6_104 {E : Ek} {x : MC} {cc : ByteArray} {nL hm pc : Nat} {M : Mem} {lv : List (Nat × Value)} {st : List Value} (X : Cx E x cc nL RX6 hm) {v1 : Int32} {Post : Int32 → Mem → Prop} (hr : 1 < hm) (hW : (st.map fun v => v.category).sum ≤ 8) (hd : decode cc pc = .ok (.invokevirtual 104, 3)) (h : wp_X6_digitAt Post M v1) (kk : ∀ r M1, Post r M1 → G E x M1 (pc + 3) lv (.int r :: st)) : G E x M pc lv (.int v1 :: .ref (ad E 1) :: st) := k_I (fun hP hS hL => run_V X (w_X6_digitAt E (xl x)  h) cw_X6_digitAt m116 m117 m118 (⟨by decide, fun E f h => ⟨_, _, _, rfl, rfl, rfl⟩⟩ : OC 1 RX6) hr rfl hd hW hP hS hL) kk
theorem cw_X6_placeIn : CW yX6_placeIn cX6_placeIn 3 (some .int) 2 := ⟨m109, m3, Nat.le_of_ble_eq_true rfl, by decide +kernel⟩
def wp_X6_placeIn (Post : Int32 → Mem → Prop) (M : Mem) (k1 : Nat) (v2 : Int32) : Prop :=
 (v2 < 0 →
  Post (-1) M) ∧
 (¬ v2 < 0 →
  (64 ≤ v2 →
   Post (-1) M) ∧
  (¬ 64 ≤ v2 →
   vp_in v2 64 ∧
   wp_J0_indexOf_0f7a4 (fun r1 M2 =>
    Post r1 M2) M k1 (((rd M 2 v2.toNatClampNeg).toUInt32 % 65536).toInt32)))
theorem w_X6_placeIn (E : Ek) (l : Launch) {k1 : Nat} {v2 : Int32} (hk1 : k1 < 2) {M : Mem} {Post : Int32 → Mem → Prop} (h : wp_X6_placeIn Post M k1 v2) : ctI E l yX6_placeIn cX6_placeIn 3 (some .int) 5 [.ref (ad E 1), .ref (eK E k1), .int v2] M Post := by
  refine ct_of (by decide) (Nat.le_of_ble_eq_true rfl) (fun x X hQ => ?_)
  change G E x M 0 [(0, .ref (ad E 1)), (1, .ref (eK E k1)), (2, .int v2)] []
  refine g_iload_n X dX6_placeIn_0 rfl 2 rfl ?_
  refine g_iflt (tgt := 24) X dX6_placeIn_1 (by decide) h (fun h => ?_) (fun h => ?_)
  · refine g_iconst (v := (-1)) X dX6_placeIn_24 (by decide) ?_
    exact g_iret X hQ dX6_placeIn_25 h
  · refine g_iload_n X dX6_placeIn_4 rfl 2 rfl ?_
    refine g_bipush (v := 64) X dX6_placeIn_5 (by decide) ?_
    refine g_icmpge (tgt := 24) X dX6_placeIn_7 (by decide) h (fun h => ?_) (fun h => ?_)
    · refine g_iconst (v := (-1)) X dX6_placeIn_24 (by decide) ?_
      exact g_iret X hQ dX6_placeIn_25 h
    · refine g_aload_n X dX6_placeIn_10 rfl 1 rfl ?_
      refine g_aload_n X dX6_placeIn_11 rfl 0 rfl ?_
      refine fg_X6_9 X dX6_placeIn_12 ?_
      refine g_iload_n X dX6_placeIn_15 rfl 2 rfl ?_
      refine g_iald X ia_2 dX6_placeIn_16 h (fun h => ?_)
      refine g_i2c X dX6_placeIn_17 ?_
      refine cl_X6_80 X hk1 (by decide) (Nat.le_of_ble_eq_true rfl) dX6_placeIn_18 h (fun r1 M2 h => ?_)
      refine g_goto (tgt := 25) X dX6_placeIn_21 (by decide) ?_
      exact g_iret X hQ dX6_placeIn_25 h
theorem cw_X6_peopleAt : CW yX6_peopleAt cX6_peopleAt 1 (some .int) 0 := ⟨m110, m3, Nat.le_of_ble_eq_true rfl, by decide +kernel⟩
def wp_X6_peopleAt (Post : Int32 → Mem → Prop) (M : Mem) : Prop :=
 Post ((2 : Int32) + ((4 : Int32) * (rd M 1 8))) M
theorem w_X6_peopleAt (E : Ek) (l : Launch) {M : Mem} {Post : Int32 → Mem → Prop} (h : wp_X6_peopleAt Post M ) : ctI E l yX6_peopleAt cX6_peopleAt 1 (some .int) 1 [.ref (ad E 1)] M Post := by
  refine ct_of (by decide) (Nat.le_of_ble_eq_true rfl) (fun x X hQ => ?_)
  change G E x M 0 [(0, .ref (ad E 1))] []
  refine g_iconst (v := 2) X dX6_peopleAt_0 (by decide) ?_
  refine g_iconst (v := 4) X dX6_peopleAt_1 (by decide) ?_
  refine g_aload_n X dX6_peopleAt_2 rfl 0 rfl ?_
  refine fg_X6_31 X dX6_peopleAt_3 ?_
  refine g_imul X dX6_peopleAt_6 ?_
  refine g_iadd X dX6_peopleAt_7 ?_
  exact g_iret X hQ dX6_peopleAt_8 h
theorem cl_X6_91 {E : Ek} {x : MC} {cc : ByteArray} {nL hm pc : Nat} {M : Mem} {lv : List (Nat × Value)} {st : List Value} (X : Cx E x cc nL RX6 hm) {Post : Int32 → Mem → Prop} (hr : 1 < hm) (hW : (st.map fun v => v.category).sum ≤ 8) (hd : decode cc pc = .ok (.invokevirtual 91, 3)) (h : wp_X6_peopleAt Post M ) (kk : ∀ r M1, Post r M1 → G E x M1 (pc + 3) lv (.int r :: st)) : G E x M pc lv (.ref (ad E 1) :: st) := k_I (fun hP hS hL => run_V X (w_X6_peopleAt E (xl x)  h) cw_X6_peopleAt m111 m112 m113 (⟨by decide, fun E f h => ⟨_, _, _, rfl, rfl, rfl⟩⟩ : OC 1 RX6) hr rfl hd hW hP hS hL) kk
theorem cw_X6_debtsAt : CW yX6_debtsAt cX6_debtsAt 1 (some .int) 0 := ⟨m114, m3, Nat.le_of_ble_eq_true rfl, by decide +kernel⟩
def wp_X6_debtsAt (Post : Int32 → Mem → Prop) (M : Mem) : Prop :=
 wp_X6_peopleAt (fun r1 M2 =>
  Post (r1 + ((4 : Int32) * (rd M2 1 9))) M2) M 
theorem w_X6_debtsAt (E : Ek) (l : Launch) {M : Mem} {Post : Int32 → Mem → Prop} (h : wp_X6_debtsAt Post M ) : ctI E l yX6_debtsAt cX6_debtsAt 1 (some .int) 2 [.ref (ad E 1)] M Post := by
  refine ct_of (by decide) (Nat.le_of_ble_eq_true rfl) (fun x X hQ => ?_)
  change G E x M 0 [(0, .ref (ad E 1))] []
  refine g_aload_n X dX6_debtsAt_0 rfl 0 rfl ?_
  refine cl_X6_91 X (by decide) (Nat.le_of_ble_eq_true rfl) dX6_debtsAt_1 h (fun r1 M2 h => ?_)
  refine g_iconst (v := 4) X dX6_debtsAt_4 (by decide) ?_
  refine g_aload_n X dX6_debtsAt_5 rfl 0 rfl ?_
  refine fg_X6_34 X dX6_debtsAt_6 ?_
  refine g_imul X dX6_debtsAt_9 ?_
  refine g_iadd X dX6_debtsAt_10 ?_
  exact g_iret X hQ dX6_debtsAt_11 h
theorem cl_X6_125 {E : Ek} {x : MC} {cc : ByteArray} {nL hm pc : Nat} {M : Mem} {lv : List (Nat × Value)} {st : List Value} (X : Cx E x cc nL RX6 hm) {Post : Int32 → Mem → Prop} (hr : 2 < hm) (hW : (st.map fun v => v.category).sum ≤ 8) (hd : decode cc pc = .ok (.invokevirtual 125, 3)) (h : wp_X6_debtsAt Post M ) (kk : ∀ r M1, Post r M1 → G E x M1 (pc + 3) lv (.int r :: st)) : G E x M pc lv (.ref (ad E 1) :: st) := k_I (fun hP hS hL => run_V X (w_X6_debtsAt E (xl x)  h) cw_X6_debtsAt m121 m122 m123 (⟨by decide, fun E f h => ⟨_, _, _, rfl, rfl, rfl⟩⟩ : OC 1 RX6) hr rfl hd hW hP hS hL) kk
theorem cw_X6_readAffairs : CW yX6_readAffairs cX6_readAffairs 4 none 1 := ⟨m128, m3, Nat.le_of_ble_eq_true rfl, by decide +kernel⟩
def wp_X6_readAffairs_b96 (Post : Mem → Prop) (o1 : Nat) (P2 : Mem → Int32 → Prop) (P53 : Mem → Int32 → Prop) (P96 : Mem → Int32 → Prop) (M : Mem) (v2 : Int32) : Prop :=
 (2 ≤ v2 →
  ∀ M18 : Mem, M18 = wr M o1 9 0 →
  ∀ M19 : Mem, M19 = wr M18 o1 8 0 →
  Post M19) ∧
 (¬ 2 ≤ v2 →
  vp_in v2 2 ∧
  ∀ M20 : Mem, M20 = wr M (o1 + 3) v2.toNatClampNeg v2 →
  ∀ x2_21 : Int32, x2_21 = v2 + 1 →
  P96 M20 x2_21)
def wp_X6_readAffairs_b53 (Post : Mem → Prop) (o1 : Nat) (P2 : Mem → Int32 → Prop) (P53 : Mem → Int32 → Prop) (P96 : Mem → Int32 → Prop) (M : Mem) (v2 : Int32) : Prop :=
 ((rd M 1 10) ≤ v2 →
  P96 M 0) ∧
 (¬ (rd M 1 10) ≤ v2 →
  wp_X6_debtsAt (fun r11 M12 =>
   wp_X6_digitAt (fun r13 M14 =>
    vp_in v2 4 ∧
    ∀ M15 : Mem, M15 = wr M14 (o1 + 4) v2.toNatClampNeg r13 →
    vp_in v2 4 ∧
    ∀ M16 : Mem, M16 = wr M15 (o1 + 5) v2.toNatClampNeg (vp_nar .boolean 0) →
    ∀ x2_17 : Int32, x2_17 = v2 + 1 →
    P53 M16 x2_17) M12 ((r11 + ((5 : Int32) * v2)) + 3)) M )
def wp_X6_readAffairs_b2 (Post : Mem → Prop) (o1 : Nat) (P2 : Mem → Int32 → Prop) (P53 : Mem → Int32 → Prop) (P96 : Mem → Int32 → Prop) (M : Mem) (v2 : Int32) : Prop :=
 ((rd M 1 9) ≤ v2 →
  P53 M 0) ∧
 (¬ (rd M 1 9) ≤ v2 →
  wp_X6_peopleAt (fun r1 M2 =>
   ∀ x3_3 : Int32, x3_3 = r1 + ((4 : Int32) * v2) →
   wp_X6_digitAt (fun r4 M5 =>
    vp_in v2 4 ∧
    ∀ M6 : Mem, M6 = wr M5 (o1 + 1) v2.toNatClampNeg r4 →
    wp_X6_digitAt (fun r7 M8 =>
     vp_in v2 4 ∧
     ∀ M9 : Mem, M9 = wr M8 (o1 + 2) v2.toNatClampNeg r7 →
     ∀ x2_10 : Int32, x2_10 = v2 + 1 →
     P2 M9 x2_10) M6 (x3_3 + 2)) M2 (x3_3 + 1)) M )
def wp_X6_readAffairs (Post : Mem → Prop) (M : Mem) (o1 : Nat) : Prop :=
 ∀ (P2 : Mem → Int32 → Prop) (P53 : Mem → Int32 → Prop) (P96 : Mem → Int32 → Prop) ,
  (∀ (M : Mem) (v2 : Int32), wp_X6_readAffairs_b2 Post o1 P2 P53 P96 M v2 → P2 M v2) →
  (∀ (M : Mem) (v2 : Int32), wp_X6_readAffairs_b53 Post o1 P2 P53 P96 M v2 → P53 M v2) →
  (∀ (M : Mem) (v2 : Int32), wp_X6_readAffairs_b96 Post o1 P2 P53 P96 M v2 → P96 M v2) →
 P2 M 0
theorem k_X6_readAffairs_b96 {E : Ek} {x : MC} (X : Cx E x cX6_readAffairs 4 RX6 3) {Post : Mem → Prop} (hQ : QV E x Post none) {o1 : Nat} (ho1 : Aff o1) {M : Mem} {v2 : Int32} (h : wp_X6_readAffairs_b96 Post o1 (fun M v2 => G E x M 2 [(0, .ref (ad E 1)), (1, .ref (ad E o1)), (2, .int v2)] []) (fun M v2 => G E x M 53 [(0, .ref (ad E 1)), (1, .ref (ad E o1)), (2, .int v2)] []) (fun M v2 => G E x M 96 [(1, .ref (ad E o1)), (2, .int v2)] []) M v2) : G E x M 96 [(1, .ref (ad E o1)), (2, .int v2)] [] := by
  refine g_iload_n X dX6_readAffairs_96 rfl 1 rfl ?_
  refine g_iconst (v := 2) X dX6_readAffairs_97 (by decide) ?_
  refine g_icmpge (tgt := 114) X dX6_readAffairs_98 (by decide) h (fun h => ?_) (fun h => ?_)
  · refine g_aload_n X dX6_readAffairs_114 rfl 0 rfl ?_
    refine g_iconst (v := 0) X dX6_readAffairs_115 (by decide) ?_
    refine fp_X6_155 X ho1 dX6_readAffairs_116 h (fun M18 h => ?_)
    refine g_aload_n X dX6_readAffairs_119 rfl 0 rfl ?_
    refine g_iconst (v := 0) X dX6_readAffairs_120 (by decide) ?_
    refine fp_X6_158 X ho1 dX6_readAffairs_121 h (fun M19 h => ?_)
    exact g_vret X hQ dX6_readAffairs_124 h
  · refine g_aload_n X dX6_readAffairs_101 rfl 0 rfl ?_
    refine fg_X6_152 X ho1 dX6_readAffairs_102 ?_
    refine g_iload_n X dX6_readAffairs_105 rfl 1 rfl ?_
    refine g_iload_n X dX6_readAffairs_106 rfl 1 rfl ?_
    refine g_iast X (af_ia3 ho1) dX6_readAffairs_107 h (fun M20 h => ?_)
    refine g_iinc (w := 1) X dX6_readAffairs_108 1 rfl (by decide) (Nat.le_of_ble_eq_true rfl) rfl (fun x2_21 => [(1, .ref (ad E o1)), (2, .int x2_21)]) (fun _ => rfl) h (fun x2_21 h => ?_)
    refine g_goto (tgt := 96) X dX6_readAffairs_111 (by decide) ?_
    exact h
theorem k_X6_readAffairs_b53 {E : Ek} {x : MC} (X : Cx E x cX6_readAffairs 4 RX6 3) {Post : Mem → Prop} (hQ : QV E x Post none) {o1 : Nat} (ho1 : Aff o1) {M : Mem} {v2 : Int32} (h : wp_X6_readAffairs_b53 Post o1 (fun M v2 => G E x M 2 [(0, .ref (ad E 1)), (1, .ref (ad E o1)), (2, .int v2)] []) (fun M v2 => G E x M 53 [(0, .ref (ad E 1)), (1, .ref (ad E o1)), (2, .int v2)] []) (fun M v2 => G E x M 96 [(1, .ref (ad E o1)), (2, .int v2)] []) M v2) : G E x M 53 [(0, .ref (ad E 1)), (1, .ref (ad E o1)), (2, .int v2)] [] := by
  refine g_iload_n X dX6_readAffairs_53 rfl 2 rfl ?_
  refine g_aload_n X dX6_readAffairs_54 rfl 0 rfl ?_
  refine fg_X6_37 X dX6_readAffairs_55 ?_
  refine g_icmpge (tgt := 94) X dX6_readAffairs_58 (by decide) h (fun h => ?_) (fun h => ?_)
  · refine g_iconst (v := 0) X dX6_readAffairs_94 (by decide) ?_
    refine g_istore_n (lv' := [(0, .ref (ad E 1)), (1, .ref (ad E o1)), (2, .int 0)]) X dX6_readAffairs_95 rfl (Nat.le_of_ble_eq_true rfl) rfl rfl ?_
    exact g_sub [1, 2] rfl h
  · refine g_aload_n X dX6_readAffairs_61 rfl 1 rfl ?_
    refine fg_X6_145 X ho1 dX6_readAffairs_62 ?_
    refine g_iload_n X dX6_readAffairs_65 rfl 2 rfl ?_
    refine g_aload_n X dX6_readAffairs_66 rfl 0 rfl ?_
    refine g_aload_n X dX6_readAffairs_67 rfl 0 rfl ?_
    refine cl_X6_125 X (by decide) (Nat.le_of_ble_eq_true rfl) dX6_readAffairs_68 h (fun r11 M12 h => ?_)
    refine g_iconst (v := 5) X dX6_readAffairs_71 (by decide) ?_
    refine g_iload_n X dX6_readAffairs_72 rfl 2 rfl ?_
    refine g_imul X dX6_readAffairs_73 ?_
    refine g_iadd X dX6_readAffairs_74 ?_
    refine g_iconst (v := 3) X dX6_readAffairs_75 (by decide) ?_
    refine g_iadd X dX6_readAffairs_76 ?_
    refine cl_X6_104 X (by decide) (Nat.le_of_ble_eq_true rfl) dX6_readAffairs_77 h (fun r13 M14 h => ?_)
    refine g_iast X (af_ia4 ho1) dX6_readAffairs_80 h (fun M15 h => ?_)
    refine g_aload_n X dX6_readAffairs_81 rfl 1 rfl ?_
    refine fg_X6_148 X ho1 dX6_readAffairs_82 ?_
    refine g_iload_n X dX6_readAffairs_85 rfl 2 rfl ?_
    refine g_iconst (v := 0) X dX6_readAffairs_86 (by decide) ?_
    refine g_zast X (af_za5 ho1) dX6_readAffairs_87 h (fun M16 h => ?_)
    refine g_iinc (w := 1) X dX6_readAffairs_88 2 rfl (by decide) (Nat.le_of_ble_eq_true rfl) rfl (fun x2_17 => [(0, .ref (ad E 1)), (1, .ref (ad E o1)), (2, .int x2_17)]) (fun _ => rfl) h (fun x2_17 h => ?_)
    refine g_goto (tgt := 53) X dX6_readAffairs_91 (by decide) ?_
    exact h
theorem k_X6_readAffairs_b2 {E : Ek} {x : MC} (X : Cx E x cX6_readAffairs 4 RX6 3) {Post : Mem → Prop} (hQ : QV E x Post none) {o1 : Nat} (ho1 : Aff o1) {M : Mem} {v2 : Int32} (h : wp_X6_readAffairs_b2 Post o1 (fun M v2 => G E x M 2 [(0, .ref (ad E 1)), (1, .ref (ad E o1)), (2, .int v2)] []) (fun M v2 => G E x M 53 [(0, .ref (ad E 1)), (1, .ref (ad E o1)), (2, .int v2)] []) (fun M v2 => G E x M 96 [(1, .ref (ad E o1)), (2, .int v2)] []) M v2) : G E x M 2 [(0, .ref (ad E 1)), (1, .ref (ad E o1)), (2, .int v2)] [] := by
  refine g_iload_n X dX6_readAffairs_2 rfl 2 rfl ?_
  refine g_aload_n X dX6_readAffairs_3 rfl 0 rfl ?_
  refine fg_X6_34 X dX6_readAffairs_4 ?_
  refine g_icmpge (tgt := 51) X dX6_readAffairs_7 (by decide) h (fun h => ?_) (fun h => ?_)
  · refine g_iconst (v := 0) X dX6_readAffairs_51 (by decide) ?_
    refine g_istore_n (lv' := [(0, .ref (ad E 1)), (1, .ref (ad E o1)), (2, .int 0)]) X dX6_readAffairs_52 rfl (Nat.le_of_ble_eq_true rfl) rfl rfl ?_
    exact h
  · refine g_aload_n X dX6_readAffairs_10 rfl 0 rfl ?_
    refine cl_X6_91 X (by decide) (Nat.le_of_ble_eq_true rfl) dX6_readAffairs_11 h (fun r1 M2 h => ?_)
    refine g_iconst (v := 4) X dX6_readAffairs_14 (by decide) ?_
    refine g_iload_n X dX6_readAffairs_15 rfl 2 rfl ?_
    refine g_imul X dX6_readAffairs_16 ?_
    refine g_iadd X dX6_readAffairs_17 ?_
    refine g_nm h (fun x3_3 h => ?_)
    refine g_istore_n (lv' := [(0, .ref (ad E 1)), (1, .ref (ad E o1)), (2, .int v2), (3, .int x3_3)]) X dX6_readAffairs_18 rfl (Nat.le_of_ble_eq_true rfl) rfl rfl ?_
    refine g_aload_n X dX6_readAffairs_19 rfl 1 rfl ?_
    refine fg_X6_137 X ho1 dX6_readAffairs_20 ?_
    refine g_iload_n X dX6_readAffairs_23 rfl 2 rfl ?_
    refine g_aload_n X dX6_readAffairs_24 rfl 0 rfl ?_
    refine g_iload_n X dX6_readAffairs_25 rfl 3 rfl ?_
    refine g_iconst (v := 1) X dX6_readAffairs_26 (by decide) ?_
    refine g_iadd X dX6_readAffairs_27 ?_
    refine cl_X6_104 X (by decide) (Nat.le_of_ble_eq_true rfl) dX6_readAffairs_28 h (fun r4 M5 h => ?_)
    refine g_iast X (af_ia1 ho1) dX6_readAffairs_31 h (fun M6 h => ?_)
    refine g_aload_n X dX6_readAffairs_32 rfl 1 rfl ?_
    refine fg_X6_142 X ho1 dX6_readAffairs_33 ?_
    refine g_iload_n X dX6_readAffairs_36 rfl 2 rfl ?_
    refine g_aload_n X dX6_readAffairs_37 rfl 0 rfl ?_
    refine g_iload_n X dX6_readAffairs_38 rfl 3 rfl ?_
    refine g_iconst (v := 2) X dX6_readAffairs_39 (by decide) ?_
    refine g_iadd X dX6_readAffairs_40 ?_
    refine cl_X6_104 X (by decide) (Nat.le_of_ble_eq_true rfl) dX6_readAffairs_41 h (fun r7 M8 h => ?_)
    refine g_iast X (af_ia2 ho1) dX6_readAffairs_44 h (fun M9 h => ?_)
    refine g_iinc (w := 1) X dX6_readAffairs_45 2 rfl (by decide) (Nat.le_of_ble_eq_true rfl) rfl (fun x2_10 => [(0, .ref (ad E 1)), (1, .ref (ad E o1)), (2, .int x2_10), (3, .int x3_3)]) (fun _ => rfl) h (fun x2_10 h => ?_)
    refine g_goto (tgt := 2) X dX6_readAffairs_48 (by decide) ?_
    exact g_sub [0, 1, 2] rfl h
theorem w_X6_readAffairs (E : Ek) (l : Launch) {o1 : Nat} (ho1 : Aff o1) {M : Mem} {Post : Mem → Prop} (h : wp_X6_readAffairs Post M o1) : ctV E l yX6_readAffairs cX6_readAffairs 4 none 3 [.ref (ad E 1), .ref (ad E o1)] M Post := by
  refine ct_of (by decide) (Nat.le_of_ble_eq_true rfl) (fun x X hQ => ?_)
  have h := h (fun M v2 => G E x M 2 [(0, .ref (ad E 1)), (1, .ref (ad E o1)), (2, .int v2)] []) (fun M v2 => G E x M 53 [(0, .ref (ad E 1)), (1, .ref (ad E o1)), (2, .int v2)] []) (fun M v2 => G E x M 96 [(1, .ref (ad E o1)), (2, .int v2)] []) (fun M v2 h => k_X6_readAffairs_b2 X hQ ho1 h) (fun M v2 h => k_X6_readAffairs_b53 X hQ ho1 h) (fun M v2 h => k_X6_readAffairs_b96 X hQ ho1 h)
  change G E x M 0 [(0, .ref (ad E 1)), (1, .ref (ad E o1))] []
  refine g_iconst (v := 0) X dX6_readAffairs_0 (by decide) ?_
  refine g_istore_n (lv' := [(0, .ref (ad E 1)), (1, .ref (ad E o1)), (2, .int 0)]) X dX6_readAffairs_1 rfl (Nat.le_of_ble_eq_true rfl) rfl rfl ?_
  exact h
theorem cw_X11_isNobody : CW yX11_isNobody cX11_isNobody 2 (some .boolean) 1 := ⟨m131, m10, Nat.le_of_ble_eq_true rfl, by decide +kernel⟩
def wp_X11_isNobody (Post : Int32 → Mem → Prop) (M : Mem) (v1 : Int32) : Prop :=
 (v1 < 0 →
  Post 1 M) ∧
 (¬ v1 < 0 →
  (v1 < (rd M 3 2) →
   Post 0 M) ∧
  (¬ v1 < (rd M 3 2) →
   Post 1 M))
theorem w_X11_isNobody (E : Ek) (l : Launch) {v1 : Int32} {M : Mem} {Post : Int32 → Mem → Prop} (h : wp_X11_isNobody Post M v1) : ctI E l yX11_isNobody cX11_isNobody 2 (some .boolean) 1 [.ref (ad E 0), .int v1] M Post := by
  refine ct_of (by decide) (Nat.le_of_ble_eq_true rfl) (fun x X hQ => ?_)
  change G E x M 0 [(0, .ref (ad E 0)), (1, .int v1)] []
  refine g_iload_n X dX11_isNobody_0 rfl 1 rfl ?_
  refine g_iflt (tgt := 15) X dX11_isNobody_1 (by decide) h (fun h => ?_) (fun h => ?_)
  · refine g_iconst (v := 1) X dX11_isNobody_15 (by decide) ?_
    refine g_goto (tgt := 20) X dX11_isNobody_16 (by decide) ?_
    exact g_zret X hQ dX11_isNobody_20 ⟨Or.inr rfl, h⟩
  · refine g_iload_n X dX11_isNobody_4 rfl 1 rfl ?_
    refine g_aload_n X dX11_isNobody_5 rfl 0 rfl ?_
    refine fg_X11_19 X dX11_isNobody_6 ?_
    refine fg_X11_90 X dX11_isNobody_9 ?_
    refine g_icmplt (tgt := 19) X dX11_isNobody_12 (by decide) h (fun h => ?_) (fun h => ?_)
    · refine g_iconst (v := 0) X dX11_isNobody_19 (by decide) ?_
      exact g_zret X hQ dX11_isNobody_20 ⟨Or.inl rfl, h⟩
    · refine g_iconst (v := 1) X dX11_isNobody_15 (by decide) ?_
      refine g_goto (tgt := 20) X dX11_isNobody_16 (by decide) ?_
      exact g_zret X hQ dX11_isNobody_20 ⟨Or.inr rfl, h⟩
theorem cl_X11_93 {E : Ek} {x : MC} {cc : ByteArray} {nL hm pc : Nat} {M : Mem} {lv : List (Nat × Value)} {st : List Value} (X : Cx E x cc nL RX11 hm) {v1 : Int32} {Post : Int32 → Mem → Prop} (hr : 1 < hm) (hW : (st.map fun v => v.category).sum ≤ 8) (hd : decode cc pc = .ok (.invokevirtual 93, 3)) (h : wp_X11_isNobody Post M v1) (kk : ∀ r M1, Post r M1 → G E x M1 (pc + 3) lv (.int r :: st)) : G E x M pc lv (.int v1 :: .ref (ad E 0) :: st) := k_I (fun hP hS hL => run_V X (w_X11_isNobody E (xl x)  h) cw_X11_isNobody m212 m213 m214 (⟨by decide, fun E f h => ⟨_, _, _, rfl, rfl, rfl⟩⟩ : OC 0 RX11) hr rfl hd hW hP hS hL) kk
theorem cw_X0_keyBits : CW yX0_keyBits cX0_keyBits 4 (some .int) 1 := ⟨m143, m144, Nat.le_of_ble_eq_true rfl, by decide +kernel⟩
def wp_X0_keyBits_b4 (Post : Int32 → Mem → Prop) (o : Nat) (v1 : Int32) (P4 : Mem → Int32 → Int32 → Prop) (M : Mem) (v2 : Int32) (v3 : Int32) : Prop :=
 (2 ≤ v3 →
  Post v2 M) ∧
 (¬ 2 ≤ v3 →
  vp_in v3 2 ∧
  (¬ (rd M (o + 3) v3.toNatClampNeg) = v1 →
   ∀ x3_1 : Int32, x3_1 = v3 + 1 →
   P4 M v2 x3_1) ∧
  ((rd M (o + 3) v3.toNatClampNeg) = v1 →
   ∀ x2_2 : Int32, x2_2 = v2 ||| ((1 : Int32) <<< (v3 &&& 31)) →
   ∀ x3_3 : Int32, x3_3 = v3 + 1 →
   P4 M x2_2 x3_3))
def wp_X0_keyBits (Post : Int32 → Mem → Prop) (M : Mem) (o : Nat) (v1 : Int32) : Prop :=
 ∀ (P4 : Mem → Int32 → Int32 → Prop) ,
  (∀ (M : Mem) (v2 : Int32) (v3 : Int32), wp_X0_keyBits_b4 Post o v1 P4 M v2 v3 → P4 M v2 v3) →
 P4 M 0 0
theorem k_X0_keyBits_b4 {E : Ek} {x : MC} (X : Cx E x cX0_keyBits 4 RX0 1) {Post : Int32 → Mem → Prop} (hQ : QI E x Post (some .int)) {o : Nat} {v1 : Int32} (ho : Aff o) {M : Mem} {v2 : Int32} {v3 : Int32} (h : wp_X0_keyBits_b4 Post o v1 (fun M v2 v3 => G E x M 4 [(0, .ref (ad E o)), (1, .int v1), (2, .int v2), (3, .int v3)] []) M v2 v3) : G E x M 4 [(0, .ref (ad E o)), (1, .int v1), (2, .int v2), (3, .int v3)] [] := by
  refine g_iload_n X dX0_keyBits_4 rfl 3 rfl ?_
  refine g_iconst (v := 2) X dX0_keyBits_5 (by decide) ?_
  refine g_icmpge (tgt := 31) X dX0_keyBits_6 (by decide) h (fun h => ?_) (fun h => ?_)
  · refine g_iload_n X dX0_keyBits_31 rfl 2 rfl ?_
    exact g_iret X hQ dX0_keyBits_32 h
  · refine g_aload_n X dX0_keyBits_9 rfl 0 rfl ?_
    refine fg_X0_18 X ho dX0_keyBits_10 ?_
    refine g_iload_n X dX0_keyBits_13 rfl 3 rfl ?_
    refine g_iald X (af_ia3 ho) dX0_keyBits_14 h (fun h => ?_)
    refine g_iload_n X dX0_keyBits_15 rfl 1 rfl ?_
    refine g_icmpne (tgt := 25) X dX0_keyBits_16 (by decide) h (fun h => ?_) (fun h => ?_)
    · refine g_iinc (w := 1) X dX0_keyBits_25 3 rfl (by decide) (Nat.le_of_ble_eq_true rfl) rfl (fun x3_1 => [(0, .ref (ad E o)), (1, .int v1), (2, .int v2), (3, .int x3_1)]) (fun _ => rfl) h (fun x3_1 h => ?_)
      refine g_goto (tgt := 4) X dX0_keyBits_28 (by decide) ?_
      exact h
    · refine g_iload_n X dX0_keyBits_19 rfl 2 rfl ?_
      refine g_iconst (v := 1) X dX0_keyBits_20 (by decide) ?_
      refine g_iload_n X dX0_keyBits_21 rfl 3 rfl ?_
      refine g_ishl X dX0_keyBits_22 ?_
      refine g_ior X dX0_keyBits_23 ?_
      refine g_nm h (fun x2_2 h => ?_)
      refine g_istore_n (lv' := [(0, .ref (ad E o)), (1, .int v1), (2, .int x2_2), (3, .int v3)]) X dX0_keyBits_24 rfl (Nat.le_of_ble_eq_true rfl) rfl rfl ?_
      refine g_iinc (w := 1) X dX0_keyBits_25 3 rfl (by decide) (Nat.le_of_ble_eq_true rfl) rfl (fun x3_3 => [(0, .ref (ad E o)), (1, .int v1), (2, .int x2_2), (3, .int x3_3)]) (fun _ => rfl) h (fun x3_3 h => ?_)
      refine g_goto (tgt := 4) X dX0_keyBits_28 (by decide) ?_
      exact h
theorem w_X0_keyBits (E : Ek) (l : Launch) {o : Nat} {v1 : Int32} (ho : Aff o) {M : Mem} {Post : Int32 → Mem → Prop} (h : wp_X0_keyBits Post M o v1) : ctI E l yX0_keyBits cX0_keyBits 4 (some .int) 1 [.ref (ad E o), .int v1] M Post := by
  refine ct_of (by decide) (Nat.le_of_ble_eq_true rfl) (fun x X hQ => ?_)
  have h := h (fun M v2 v3 => G E x M 4 [(0, .ref (ad E o)), (1, .int v1), (2, .int v2), (3, .int v3)] []) (fun M v2 v3 h => k_X0_keyBits_b4 X hQ ho h)
  change G E x M 0 [(0, .ref (ad E o)), (1, .int v1)] []
  refine g_iconst (v := 0) X dX0_keyBits_0 (by decide) ?_
  refine g_istore_n (lv' := [(0, .ref (ad E o)), (1, .int v1), (2, .int 0)]) X dX0_keyBits_1 rfl (Nat.le_of_ble_eq_true rfl) rfl rfl ?_
  refine g_iconst (v := 0) X dX0_keyBits_2 (by decide) ?_
  refine g_istore_n (lv' := [(0, .ref (ad E o)), (1, .int v1), (2, .int 0), (3, .int 0)]) X dX0_keyBits_3 rfl (Nat.le_of_ble_eq_true rfl) rfl rfl ?_
  exact h
theorem cl_X11_113 {E : Ek} {x : MC} {cc : ByteArray} {nL hm pc : Nat} {M : Mem} {lv : List (Nat × Value)} {st : List Value} (X : Cx E x cc nL RX11 hm) {o : Nat} {v1 : Int32} (ho : Aff o) {Post : Int32 → Mem → Prop} (hr : 1 < hm) (hW : (st.map fun v => v.category).sum ≤ 8) (hd : decode cc pc = .ok (.invokevirtual 113, 3)) (h : wp_X0_keyBits Post M o v1) (kk : ∀ r M1, Post r M1 → G E x M1 (pc + 3) lv (.int r :: st)) : G E x M pc lv (.int v1 :: .ref (ad E o) :: st) := k_I (fun hP hS hL => run_VN X (w_X0_keyBits E (xl x) ho h) cw_X0_keyBits m219 m220 m221 (af_oc ho) hr rfl hd hW hP hS hL) kk
theorem cw_X4_doorEndsAt : CW yX4_doorEndsAt cX4_doorEndsAt 3 (some .boolean) 2 := ⟨m147, m148, Nat.le_of_ble_eq_true rfl, by decide +kernel⟩
def wp_X4_doorEndsAt (Post : Int32 → Mem → Prop) (M : Mem) (v1 : Int32) (v2 : Int32) : Prop :=
 vp_in v1 6 ∧
 ((rd M 4 v1.toNatClampNeg) = v2 →
  Post 1 M) ∧
 (¬ (rd M 4 v1.toNatClampNeg) = v2 →
  vp_in v1 6 ∧
  (¬ (rd M 5 v1.toNatClampNeg) = v2 →
   Post 0 M) ∧
  ((rd M 5 v1.toNatClampNeg) = v2 →
   Post 1 M))
theorem w_X4_doorEndsAt (E : Ek) (l : Launch) {v1 : Int32} {v2 : Int32} {M : Mem} {Post : Int32 → Mem → Prop} (h : wp_X4_doorEndsAt Post M v1 v2) : ctI E l yX4_doorEndsAt cX4_doorEndsAt 3 (some .boolean) 1 [.ref (ad E 3), .int v1, .int v2] M Post := by
  refine ct_of (by decide) (Nat.le_of_ble_eq_true rfl) (fun x X hQ => ?_)
  change G E x M 0 [(0, .ref (ad E 3)), (1, .int v1), (2, .int v2)] []
  refine g_aload_n X dX4_doorEndsAt_0 rfl 0 rfl ?_
  refine fg_X4_9 X dX4_doorEndsAt_1 ?_
  refine g_iload_n X dX4_doorEndsAt_4 rfl 1 rfl ?_
  refine g_iald X ia_4 dX4_doorEndsAt_5 h (fun h => ?_)
  refine g_iload_n X dX4_doorEndsAt_6 rfl 2 rfl ?_
  refine g_icmpeq (tgt := 20) X dX4_doorEndsAt_7 (by decide) h (fun h => ?_) (fun h => ?_)
  · refine g_iconst (v := 1) X dX4_doorEndsAt_20 (by decide) ?_
    refine g_goto (tgt := 25) X dX4_doorEndsAt_21 (by decide) ?_
    exact g_zret X hQ dX4_doorEndsAt_25 ⟨Or.inr rfl, h⟩
  · refine g_aload_n X dX4_doorEndsAt_10 rfl 0 rfl ?_
    refine fg_X4_15 X dX4_doorEndsAt_11 ?_
    refine g_iload_n X dX4_doorEndsAt_14 rfl 1 rfl ?_
    refine g_iald X ia_5 dX4_doorEndsAt_15 h (fun h => ?_)
    refine g_iload_n X dX4_doorEndsAt_16 rfl 2 rfl ?_
    refine g_icmpne (tgt := 24) X dX4_doorEndsAt_17 (by decide) h (fun h => ?_) (fun h => ?_)
    · refine g_iconst (v := 0) X dX4_doorEndsAt_24 (by decide) ?_
      exact g_zret X hQ dX4_doorEndsAt_25 ⟨Or.inl rfl, h⟩
    · refine g_iconst (v := 1) X dX4_doorEndsAt_20 (by decide) ?_
      refine g_goto (tgt := 25) X dX4_doorEndsAt_21 (by decide) ?_
      exact g_zret X hQ dX4_doorEndsAt_25 ⟨Or.inr rfl, h⟩
theorem cl_X0_60 {E : Ek} {x : MC} {cc : ByteArray} {nL hm pc : Nat} {M : Mem} {lv : List (Nat × Value)} {st : List Value} (X : Cx E x cc nL RX0 hm) {v1 : Int32} {v2 : Int32} {Post : Int32 → Mem → Prop} (hr : 1 < hm) (hW : (st.map fun v => v.category).sum ≤ 8) (hd : decode cc pc = .ok (.invokevirtual 60, 3)) (h : wp_X4_doorEndsAt Post M v1 v2) (kk : ∀ r M1, Post r M1 → G E x M1 (pc + 3) lv (.int r :: st)) : G E x M pc lv (.int v2 :: .int v1 :: .ref (ad E 3) :: st) := k_I (fun hP hS hL => run_VN X (w_X4_doorEndsAt E (xl x)  h) cw_X4_doorEndsAt m157 m158 m159 (⟨by decide, fun E f h => ⟨_, _, _, rfl, rfl, rfl⟩⟩ : OC 3 RX4) hr rfl hd hW hP hS hL) kk
theorem cl_X10_65 {E : Ek} {x : MC} {cc : ByteArray} {nL hm pc : Nat} {M : Mem} {lv : List (Nat × Value)} {st : List Value} (X : Cx E x cc nL RX10 hm) {v1 : Int32} {v2 : Int32} {Post : Int32 → Mem → Prop} (hr : 1 < hm) (hW : (st.map fun v => v.category).sum ≤ 8) (hd : decode cc pc = .ok (.invokevirtual 65, 3)) (h : wp_X4_doorEndsAt Post M v1 v2) (kk : ∀ r M1, Post r M1 → G E x M1 (pc + 3) lv (.int r :: st)) : G E x M pc lv (.int v2 :: .int v1 :: .ref (ad E 3) :: st) := k_I (fun hP hS hL => run_VN X (w_X4_doorEndsAt E (xl x)  h) cw_X4_doorEndsAt m306 m158 m159 (⟨by decide, fun E f h => ⟨_, _, _, rfl, rfl, rfl⟩⟩ : OC 3 RX4) hr rfl hd hW hP hS hL) kk
theorem cw_X0_mayPass : CW yX0_mayPass cX0_mayPass 6 (some .boolean) 2 := ⟨m155, m144, Nat.le_of_ble_eq_true rfl, by decide +kernel⟩
def wp_X0_mayPass_b46 (Post : Int32 → Mem → Prop) (o : Nat) (v1 : Int32) (v2 : Int32) (M : Mem) (v4 : Int32) (s0 : Int32) : Prop :=
 vp_in v1 4 ∧
 wpv_passes (fun r2 M3 =>
  zb r2 ∧ Post r2 M3) M (11 + v1.toNatClampNeg) v4 s0
def wp_X0_mayPass_b45 (Post : Int32 → Mem → Prop) (o : Nat) (v1 : Int32) (v2 : Int32) (M : Mem) (v4 : Int32) : Prop :=
 wp_X0_mayPass_b46 Post o v1 v2 M v4 0
def wp_X0_mayPass_b24 (Post : Int32 → Mem → Prop) (o : Nat) (v1 : Int32) (v2 : Int32) (M : Mem) (v3 : Int32) (s0 : Int32) : Prop :=
 (s0 = 0 →
  wp_X0_mayPass_b45 Post o v1 v2 M s0) ∧
 (¬ s0 = 0 →
  vp_in v3 2 ∧
  (¬ (rd M (o + 3) v3.toNatClampNeg) = v1 →
   wp_X0_mayPass_b45 Post o v1 v2 M s0) ∧
  ((rd M (o + 3) v3.toNatClampNeg) = v1 →
   wp_X0_mayPass_b46 Post o v1 v2 M s0 1))
def wp_X0_mayPass_b23 (Post : Int32 → Mem → Prop) (o : Nat) (v1 : Int32) (v2 : Int32) (M : Mem) (v3 : Int32) : Prop :=
 wp_X0_mayPass_b24 Post o v1 v2 M v3 0
def wp_X0_mayPass (Post : Int32 → Mem → Prop) (M : Mem) (o : Nat) (v1 : Int32) (v2 : Int32) : Prop :=
 vp_in v2 6 ∧
 ∀ x3_1 : Int32, x3_1 = rd M 6 v2.toNatClampNeg →
 (x3_1 < 0 →
  wp_X0_mayPass_b23 Post o v1 v2 M x3_1) ∧
 (¬ x3_1 < 0 →
  (2 ≤ x3_1 →
   wp_X0_mayPass_b23 Post o v1 v2 M x3_1) ∧
  (¬ 2 ≤ x3_1 →
   wp_X0_mayPass_b24 Post o v1 v2 M x3_1 1))
theorem k_X0_mayPass_b46 {E : Ek} {x : MC} (X : Cx E x cX0_mayPass 6 RX0 2) {Post : Int32 → Mem → Prop} (hQ : QI E x Post (some .boolean)) {o : Nat} {v1 : Int32} {v2 : Int32} (ho : Aff o) {M : Mem} {v4 : Int32} {s0 : Int32} (h : wp_X0_mayPass_b46 Post o v1 v2 M v4 s0) : G E x M 46 [(0, .ref (ad E o)), (1, .int v1), (4, .int v4)] [.int s0] := by
  refine g_istore (lv' := [(0, .ref (ad E o)), (1, .int v1), (4, .int v4), (5, .int s0)]) X dX0_mayPass_46 (Nat.le_of_ble_eq_true rfl) rfl rfl ?_
  refine g_aload_n X dX0_mayPass_48 rfl 0 rfl ?_
  refine fg_X0_34 X ho dX0_mayPass_49 ?_
  refine fg_X0_50 X dX0_mayPass_52 ?_
  refine g_iload_n X dX0_mayPass_55 rfl 1 rfl ?_
  refine g_pald X dX0_mayPass_56 h (fun hi1 h => ?_)
  refine g_iload X dX0_mayPass_57 2 rfl ?_
  refine g_iload X dX0_mayPass_59 3 rfl ?_
  refine cv_X0_54 X (prs_of hi1) (by decide) (Nat.le_of_ble_eq_true rfl) dX0_mayPass_61 h (fun r2 M3 h => ?_)
  exact g_zret X hQ dX0_mayPass_64 h
theorem k_X0_mayPass_b45 {E : Ek} {x : MC} (X : Cx E x cX0_mayPass 6 RX0 2) {Post : Int32 → Mem → Prop} (hQ : QI E x Post (some .boolean)) {o : Nat} {v1 : Int32} {v2 : Int32} (ho : Aff o) {M : Mem} {v4 : Int32} (h : wp_X0_mayPass_b45 Post o v1 v2 M v4) : G E x M 45 [(0, .ref (ad E o)), (1, .int v1), (4, .int v4)] [] := by
  refine g_iconst (v := 0) X dX0_mayPass_45 (by decide) ?_
  exact (k_X0_mayPass_b46 X hQ ho h)
theorem k_X0_mayPass_b24 {E : Ek} {x : MC} (X : Cx E x cX0_mayPass 6 RX0 2) {Post : Int32 → Mem → Prop} (hQ : QI E x Post (some .boolean)) {o : Nat} {v1 : Int32} {v2 : Int32} (ho : Aff o) {M : Mem} {v3 : Int32} {s0 : Int32} (h : wp_X0_mayPass_b24 Post o v1 v2 M v3 s0) : G E x M 24 [(0, .ref (ad E o)), (1, .int v1), (3, .int v3)] [.int s0] := by
  refine g_istore (lv' := [(0, .ref (ad E o)), (1, .int v1), (3, .int v3), (4, .int s0)]) X dX0_mayPass_24 (Nat.le_of_ble_eq_true rfl) rfl rfl ?_
  refine g_iload X dX0_mayPass_26 3 rfl ?_
  refine g_ifeq (tgt := 45) X dX0_mayPass_28 (by decide) h (fun h => ?_) (fun h => ?_)
  · exact g_sub [0, 1, 3] rfl (k_X0_mayPass_b45 X hQ ho h)
  · refine g_aload_n X dX0_mayPass_31 rfl 0 rfl ?_
    refine fg_X0_18 X ho dX0_mayPass_32 ?_
    refine g_iload_n X dX0_mayPass_35 rfl 2 rfl ?_
    refine g_iald X (af_ia3 ho) dX0_mayPass_36 h (fun h => ?_)
    refine g_iload_n X dX0_mayPass_37 rfl 1 rfl ?_
    refine g_icmpne (tgt := 45) X dX0_mayPass_38 (by decide) h (fun h => ?_) (fun h => ?_)
    · exact g_sub [0, 1, 3] rfl (k_X0_mayPass_b45 X hQ ho h)
    · refine g_iconst (v := 1) X dX0_mayPass_41 (by decide) ?_
      refine g_goto (tgt := 46) X dX0_mayPass_42 (by decide) ?_
      exact g_sub [0, 1, 3] rfl (k_X0_mayPass_b46 X hQ ho h)
theorem k_X0_mayPass_b23 {E : Ek} {x : MC} (X : Cx E x cX0_mayPass 6 RX0 2) {Post : Int32 → Mem → Prop} (hQ : QI E x Post (some .boolean)) {o : Nat} {v1 : Int32} {v2 : Int32} (ho : Aff o) {M : Mem} {v3 : Int32} (h : wp_X0_mayPass_b23 Post o v1 v2 M v3) : G E x M 23 [(0, .ref (ad E o)), (1, .int v1), (3, .int v3)] [] := by
  refine g_iconst (v := 0) X dX0_mayPass_23 (by decide) ?_
  exact (k_X0_mayPass_b24 X hQ ho h)
theorem w_X0_mayPass (E : Ek) (l : Launch) {o : Nat} {v1 : Int32} {v2 : Int32} (ho : Aff o) {M : Mem} {Post : Int32 → Mem → Prop} (h : wp_X0_mayPass Post M o v1 v2) : ctI E l yX0_mayPass cX0_mayPass 6 (some .boolean) 2 [.ref (ad E o), .int v1, .int v2] M Post := by
  refine ct_of (by decide) (Nat.le_of_ble_eq_true rfl) (fun x X hQ => ?_)
  change G E x M 0 [(0, .ref (ad E o)), (1, .int v1), (2, .int v2)] []
  refine g_aload_n X dX0_mayPass_0 rfl 0 rfl ?_
  refine fg_X0_34 X ho dX0_mayPass_1 ?_
  refine fg_X0_45 X dX0_mayPass_4 ?_
  refine g_iload_n X dX0_mayPass_7 rfl 2 rfl ?_
  refine g_iald X ia_6 dX0_mayPass_8 h (fun h => ?_)
  refine g_nm h (fun x3_1 h => ?_)
  refine g_istore_n (lv' := [(0, .ref (ad E o)), (1, .int v1), (2, .int v2), (3, .int x3_1)]) X dX0_mayPass_9 rfl (Nat.le_of_ble_eq_true rfl) rfl rfl ?_
  refine g_iload_n X dX0_mayPass_10 rfl 3 rfl ?_
  refine g_iflt (tgt := 23) X dX0_mayPass_11 (by decide) h (fun h => ?_) (fun h => ?_)
  · exact g_sub [0, 1, 3] rfl (k_X0_mayPass_b23 X hQ ho h)
  · refine g_iload_n X dX0_mayPass_14 rfl 3 rfl ?_
    refine g_iconst (v := 2) X dX0_mayPass_15 (by decide) ?_
    refine g_icmpge (tgt := 23) X dX0_mayPass_16 (by decide) h (fun h => ?_) (fun h => ?_)
    · exact g_sub [0, 1, 3] rfl (k_X0_mayPass_b23 X hQ ho h)
    · refine g_iconst (v := 1) X dX0_mayPass_19 (by decide) ?_
      refine g_goto (tgt := 24) X dX0_mayPass_20 (by decide) ?_
      exact g_sub [0, 1, 3] rfl (k_X0_mayPass_b24 X hQ ho h)
theorem cl_X0_64 {E : Ek} {x : MC} {cc : ByteArray} {nL hm pc : Nat} {M : Mem} {lv : List (Nat × Value)} {st : List Value} (X : Cx E x cc nL RX0 hm) {o : Nat} {v1 : Int32} {v2 : Int32} (ho : Aff o) {Post : Int32 → Mem → Prop} (hr : 2 < hm) (hW : (st.map fun v => v.category).sum ≤ 8) (hd : decode cc pc = .ok (.invokevirtual 64, 3)) (h : wp_X0_mayPass Post M o v1 v2) (kk : ∀ r M1, Post r M1 → G E x M1 (pc + 3) lv (.int r :: st)) : G E x M pc lv (.int v2 :: .int v1 :: .ref (ad E o) :: st) := k_I (fun hP hS hL => run_V X (w_X0_mayPass E (xl x) ho h) cw_X0_mayPass m160 m161 m162 (af_oc ho) hr rfl hd hW hP hS hL) kk
theorem cl_X10_51 {E : Ek} {x : MC} {cc : ByteArray} {nL hm pc : Nat} {M : Mem} {lv : List (Nat × Value)} {st : List Value} (X : Cx E x cc nL RX10 hm) {o : Nat} {v1 : Int32} {v2 : Int32} (ho : Aff o) {Post : Int32 → Mem → Prop} (hr : 2 < hm) (hW : (st.map fun v => v.category).sum ≤ 8) (hd : decode cc pc = .ok (.invokevirtual 51, 3)) (h : wp_X0_mayPass Post M o v1 v2) (kk : ∀ r M1, Post r M1 → G E x M1 (pc + 3) lv (.int r :: st)) : G E x M pc lv (.int v2 :: .int v1 :: .ref (ad E o) :: st) := k_I (fun hP hS hL => run_VN X (w_X0_mayPass E (xl x) ho h) cw_X0_mayPass m294 m161 m162 (af_oc ho) hr rfl hd hW hP hS hL) kk
theorem cw_X0_mayGo : CW yX0_mayGo cX0_mayGo 3 (some .boolean) 2 := ⟨m163, m144, Nat.le_of_ble_eq_true rfl, by decide +kernel⟩
def wp_X0_mayGo (Post : Int32 → Mem → Prop) (M : Mem) (o : Nat) (v1 : Int32) (v2 : Int32) : Prop :=
 vp_in v1 4 ∧
 wp_X4_doorEndsAt (fun r1 M2 =>
  (r1 = 0 →
   Post 0 M2) ∧
  (¬ r1 = 0 →
   wp_X0_mayPass (fun r3 M4 =>
    (r3 = 0 →
     Post 0 M4) ∧
    (¬ r3 = 0 →
     Post 1 M4)) M2 o v1 v2)) M v2 (rd M (o + 2) v1.toNatClampNeg)
theorem w_X0_mayGo (E : Ek) (l : Launch) {o : Nat} {v1 : Int32} {v2 : Int32} (ho : Aff o) {M : Mem} {Post : Int32 → Mem → Prop} (h : wp_X0_mayGo Post M o v1 v2) : ctI E l yX0_mayGo cX0_mayGo 3 (some .boolean) 3 [.ref (ad E o), .int v1, .int v2] M Post := by
  refine ct_of (by decide) (Nat.le_of_ble_eq_true rfl) (fun x X hQ => ?_)
  change G E x M 0 [(0, .ref (ad E o)), (1, .int v1), (2, .int v2)] []
  refine g_aload_n X dX0_mayGo_0 rfl 0 rfl ?_
  refine fg_X0_34 X ho dX0_mayGo_1 ?_
  refine g_iload_n X dX0_mayGo_4 rfl 2 rfl ?_
  refine g_aload_n X dX0_mayGo_5 rfl 0 rfl ?_
  refine fg_X0_15 X ho dX0_mayGo_6 ?_
  refine g_iload_n X dX0_mayGo_9 rfl 1 rfl ?_
  refine g_iald X (af_ia2 ho) dX0_mayGo_10 h (fun h => ?_)
  refine cl_X0_60 X (by decide) (Nat.le_of_ble_eq_true rfl) dX0_mayGo_11 h (fun r1 M2 h => ?_)
  refine g_ifeq (tgt := 30) X dX0_mayGo_14 (by decide) h (fun h => ?_) (fun h => ?_)
  · refine g_iconst (v := 0) X dX0_mayGo_30 (by decide) ?_
    exact g_zret X hQ dX0_mayGo_31 ⟨Or.inl rfl, h⟩
  · refine g_aload_n X dX0_mayGo_17 rfl 0 rfl ?_
    refine g_iload_n X dX0_mayGo_18 rfl 1 rfl ?_
    refine g_iload_n X dX0_mayGo_19 rfl 2 rfl ?_
    refine cl_X0_64 X ho (by decide) (Nat.le_of_ble_eq_true rfl) dX0_mayGo_20 h (fun r3 M4 h => ?_)
    refine g_ifeq (tgt := 30) X dX0_mayGo_23 (by decide) h (fun h => ?_) (fun h => ?_)
    · refine g_iconst (v := 0) X dX0_mayGo_30 (by decide) ?_
      exact g_zret X hQ dX0_mayGo_31 ⟨Or.inl rfl, h⟩
    · refine g_iconst (v := 1) X dX0_mayGo_26 (by decide) ?_
      refine g_goto (tgt := 31) X dX0_mayGo_27 (by decide) ?_
      exact g_zret X hQ dX0_mayGo_31 ⟨Or.inr rfl, h⟩
theorem cl_X0_121 {E : Ek} {x : MC} {cc : ByteArray} {nL hm pc : Nat} {M : Mem} {lv : List (Nat × Value)} {st : List Value} (X : Cx E x cc nL RX0 hm) {o : Nat} {v1 : Int32} {v2 : Int32} (ho : Aff o) {Post : Int32 → Mem → Prop} (hr : 3 < hm) (hW : (st.map fun v => v.category).sum ≤ 8) (hd : decode cc pc = .ok (.invokevirtual 121, 3)) (h : wp_X0_mayGo Post M o v1 v2) (kk : ∀ r M1, Post r M1 → G E x M1 (pc + 3) lv (.int r :: st)) : G E x M pc lv (.int v2 :: .int v1 :: .ref (ad E o) :: st) := k_I (fun hP hS hL => run_V X (w_X0_mayGo E (xl x) ho h) cw_X0_mayGo m165 m166 m167 (af_oc ho) hr rfl hd hW hP hS hL) kk
theorem cl_X11_170 {E : Ek} {x : MC} {cc : ByteArray} {nL hm pc : Nat} {M : Mem} {lv : List (Nat × Value)} {st : List Value} (X : Cx E x cc nL RX11 hm) {o : Nat} {v1 : Int32} {v2 : Int32} (ho : Aff o) {Post : Int32 → Mem → Prop} (hr : 3 < hm) (hW : (st.map fun v => v.category).sum ≤ 8) (hd : decode cc pc = .ok (.invokevirtual 170, 3)) (h : wp_X0_mayGo Post M o v1 v2) (kk : ∀ r M1, Post r M1 → G E x M1 (pc + 3) lv (.int r :: st)) : G E x M pc lv (.int v2 :: .int v1 :: .ref (ad E o) :: st) := k_I (fun hP hS hL => run_VN X (w_X0_mayGo E (xl x) ho h) cw_X0_mayGo m269 m166 m167 (af_oc ho) hr rfl hd hW hP hS hL) kk
theorem cl_X5_56 {E : Ek} {x : MC} {cc : ByteArray} {nL hm pc : Nat} {M : Mem} {lv : List (Nat × Value)} {st : List Value} (X : Cx E x cc nL RX5 hm) {o : Nat} {v1 : Int32} {v2 : Int32} (ho : Aff o) {Post : Int32 → Mem → Prop} (hr : 3 < hm) (hW : (st.map fun v => v.category).sum ≤ 8) (hd : decode cc pc = .ok (.invokevirtual 56, 3)) (h : wp_X0_mayGo Post M o v1 v2) (kk : ∀ r M1, Post r M1 → G E x M1 (pc + 3) lv (.int r :: st)) : G E x M pc lv (.int v2 :: .int v1 :: .ref (ad E o) :: st) := k_I (fun hP hS hL => run_VN X (w_X0_mayGo E (xl x) ho h) cw_X0_mayGo m341 m166 m167 (af_oc ho) hr rfl hd hW hP hS hL) kk
theorem cw_X0_doorBits : CW yX0_doorBits cX0_doorBits 4 (some .int) 1 := ⟨m168, m144, Nat.le_of_ble_eq_true rfl, by decide +kernel⟩
def wp_X0_doorBits_b4 (Post : Int32 → Mem → Prop) (o : Nat) (v1 : Int32) (P4 : Mem → Int32 → Int32 → Prop) (M : Mem) (v2 : Int32) (v3 : Int32) : Prop :=
 ((rd M 3 1) ≤ v3 →
  Post v2 M) ∧
 (¬ (rd M 3 1) ≤ v3 →
  wp_X0_mayGo (fun r1 M2 =>
   (r1 = 0 →
    ∀ x3_3 : Int32, x3_3 = v3 + 1 →
    P4 M2 v2 x3_3) ∧
   (¬ r1 = 0 →
    ∀ x2_4 : Int32, x2_4 = v2 ||| ((1 : Int32) <<< (v3 &&& 31)) →
    ∀ x3_5 : Int32, x3_5 = v3 + 1 →
    P4 M2 x2_4 x3_5)) M o v1 v3)
def wp_X0_doorBits (Post : Int32 → Mem → Prop) (M : Mem) (o : Nat) (v1 : Int32) : Prop :=
 ∀ (P4 : Mem → Int32 → Int32 → Prop) ,
  (∀ (M : Mem) (v2 : Int32) (v3 : Int32), wp_X0_doorBits_b4 Post o v1 P4 M v2 v3 → P4 M v2 v3) →
 P4 M 0 0
theorem k_X0_doorBits_b4 {E : Ek} {x : MC} (X : Cx E x cX0_doorBits 4 RX0 4) {Post : Int32 → Mem → Prop} (hQ : QI E x Post (some .int)) {o : Nat} {v1 : Int32} (ho : Aff o) {M : Mem} {v2 : Int32} {v3 : Int32} (h : wp_X0_doorBits_b4 Post o v1 (fun M v2 v3 => G E x M 4 [(0, .ref (ad E o)), (1, .int v1), (2, .int v2), (3, .int v3)] []) M v2 v3) : G E x M 4 [(0, .ref (ad E o)), (1, .int v1), (2, .int v2), (3, .int v3)] [] := by
  refine g_iload_n X dX0_doorBits_4 rfl 3 rfl ?_
  refine g_aload_n X dX0_doorBits_5 rfl 0 rfl ?_
  refine fg_X0_34 X ho dX0_doorBits_6 ?_
  refine fg_X0_118 X dX0_doorBits_9 ?_
  refine g_icmpge (tgt := 36) X dX0_doorBits_12 (by decide) h (fun h => ?_) (fun h => ?_)
  · refine g_iload_n X dX0_doorBits_36 rfl 2 rfl ?_
    exact g_iret X hQ dX0_doorBits_37 h
  · refine g_aload_n X dX0_doorBits_15 rfl 0 rfl ?_
    refine g_iload_n X dX0_doorBits_16 rfl 1 rfl ?_
    refine g_iload_n X dX0_doorBits_17 rfl 3 rfl ?_
    refine cl_X0_121 X ho (by decide) (Nat.le_of_ble_eq_true rfl) dX0_doorBits_18 h (fun r1 M2 h => ?_)
    refine g_ifeq (tgt := 30) X dX0_doorBits_21 (by decide) h (fun h => ?_) (fun h => ?_)
    · refine g_iinc (w := 1) X dX0_doorBits_30 3 rfl (by decide) (Nat.le_of_ble_eq_true rfl) rfl (fun x3_3 => [(0, .ref (ad E o)), (1, .int v1), (2, .int v2), (3, .int x3_3)]) (fun _ => rfl) h (fun x3_3 h => ?_)
      refine g_goto (tgt := 4) X dX0_doorBits_33 (by decide) ?_
      exact h
    · refine g_iload_n X dX0_doorBits_24 rfl 2 rfl ?_
      refine g_iconst (v := 1) X dX0_doorBits_25 (by decide) ?_
      refine g_iload_n X dX0_doorBits_26 rfl 3 rfl ?_
      refine g_ishl X dX0_doorBits_27 ?_
      refine g_ior X dX0_doorBits_28 ?_
      refine g_nm h (fun x2_4 h => ?_)
      refine g_istore_n (lv' := [(0, .ref (ad E o)), (1, .int v1), (2, .int x2_4), (3, .int v3)]) X dX0_doorBits_29 rfl (Nat.le_of_ble_eq_true rfl) rfl rfl ?_
      refine g_iinc (w := 1) X dX0_doorBits_30 3 rfl (by decide) (Nat.le_of_ble_eq_true rfl) rfl (fun x3_5 => [(0, .ref (ad E o)), (1, .int v1), (2, .int x2_4), (3, .int x3_5)]) (fun _ => rfl) h (fun x3_5 h => ?_)
      refine g_goto (tgt := 4) X dX0_doorBits_33 (by decide) ?_
      exact h
theorem w_X0_doorBits (E : Ek) (l : Launch) {o : Nat} {v1 : Int32} (ho : Aff o) {M : Mem} {Post : Int32 → Mem → Prop} (h : wp_X0_doorBits Post M o v1) : ctI E l yX0_doorBits cX0_doorBits 4 (some .int) 4 [.ref (ad E o), .int v1] M Post := by
  refine ct_of (by decide) (Nat.le_of_ble_eq_true rfl) (fun x X hQ => ?_)
  have h := h (fun M v2 v3 => G E x M 4 [(0, .ref (ad E o)), (1, .int v1), (2, .int v2), (3, .int v3)] []) (fun M v2 v3 h => k_X0_doorBits_b4 X hQ ho h)
  change G E x M 0 [(0, .ref (ad E o)), (1, .int v1)] []
  refine g_iconst (v := 0) X dX0_doorBits_0 (by decide) ?_
  refine g_istore_n (lv' := [(0, .ref (ad E o)), (1, .int v1), (2, .int 0)]) X dX0_doorBits_1 rfl (Nat.le_of_ble_eq_true rfl) rfl rfl ?_
  refine g_iconst (v := 0) X dX0_doorBits_2 (by decide) ?_
  refine g_istore_n (lv' := [(0, .ref (ad E o)), (1, .int v1), (2, .int 0), (3, .int 0)]) X dX0_doorBits_3 rfl (Nat.le_of_ble_eq_true rfl) rfl rfl ?_
  exact h
theorem cl_X11_117 {E : Ek} {x : MC} {cc : ByteArray} {nL hm pc : Nat} {M : Mem} {lv : List (Nat × Value)} {st : List Value} (X : Cx E x cc nL RX11 hm) {o : Nat} {v1 : Int32} (ho : Aff o) {Post : Int32 → Mem → Prop} (hr : 4 < hm) (hW : (st.map fun v => v.category).sum ≤ 8) (hd : decode cc pc = .ok (.invokevirtual 117, 3)) (h : wp_X0_doorBits Post M o v1) (kk : ∀ r M1, Post r M1 → G E x M1 (pc + 3) lv (.int r :: st)) : G E x M pc lv (.int v1 :: .ref (ad E o) :: st) := k_I (fun hP hS hL => run_VN X (w_X0_doorBits E (xl x) ho h) cw_X0_doorBits m222 m223 m224 (af_oc ho) hr rfl hd hW hP hS hL) kk
theorem cw_X0_costOf : CW yX0_costOf cX0_costOf 2 (some .int) 1 := ⟨m174, m144, Nat.le_of_ble_eq_true rfl, by decide +kernel⟩
def wp_X0_costOf (Post : Int32 → Mem → Prop) (M : Mem) (o : Nat) (v1 : Int32) : Prop :=
 vp_in v1 4 ∧
 vp_in (rd M 8 v1.toNatClampNeg) 4 ∧
 vp_in v1 4 ∧
 wpv_costOfSum (fun r1 M2 =>
  Post r1 M2) M (11 + (rd M 8 v1.toNatClampNeg).toNatClampNeg) (rd M (o + 4) v1.toNatClampNeg)
theorem w_X0_costOf (E : Ek) (l : Launch) {o : Nat} {v1 : Int32} (ho : Aff o) {M : Mem} {Post : Int32 → Mem → Prop} (h : wp_X0_costOf Post M o v1) : ctI E l yX0_costOf cX0_costOf 2 (some .int) 2 [.ref (ad E o), .int v1] M Post := by
  refine ct_of (by decide) (Nat.le_of_ble_eq_true rfl) (fun x X hQ => ?_)
  change G E x M 0 [(0, .ref (ad E o)), (1, .int v1)] []
  refine g_aload_n X dX0_costOf_0 rfl 0 rfl ?_
  refine fg_X0_34 X ho dX0_costOf_1 ?_
  refine fg_X0_50 X dX0_costOf_4 ?_
  refine g_aload_n X dX0_costOf_7 rfl 0 rfl ?_
  refine fg_X0_34 X ho dX0_costOf_8 ?_
  refine fg_X0_71 X dX0_costOf_11 ?_
  refine g_iload_n X dX0_costOf_14 rfl 1 rfl ?_
  refine g_iald X ia_8 dX0_costOf_15 h (fun h => ?_)
  refine g_pald X dX0_costOf_16 h (fun hi1 h => ?_)
  refine g_aload_n X dX0_costOf_17 rfl 0 rfl ?_
  refine fg_X0_21 X ho dX0_costOf_18 ?_
  refine g_iload_n X dX0_costOf_21 rfl 1 rfl ?_
  refine g_iald X (af_ia4 ho) dX0_costOf_22 h (fun h => ?_)
  refine cv_X0_74 X (prs_of hi1) (by decide) (Nat.le_of_ble_eq_true rfl) dX0_costOf_23 h (fun r1 M2 h => ?_)
  exact g_iret X hQ dX0_costOf_26 h
theorem cl_X0_78 {E : Ek} {x : MC} {cc : ByteArray} {nL hm pc : Nat} {M : Mem} {lv : List (Nat × Value)} {st : List Value} (X : Cx E x cc nL RX0 hm) {o : Nat} {v1 : Int32} (ho : Aff o) {Post : Int32 → Mem → Prop} (hr : 2 < hm) (hW : (st.map fun v => v.category).sum ≤ 8) (hd : decode cc pc = .ok (.invokevirtual 78, 3)) (h : wp_X0_costOf Post M o v1) (kk : ∀ r M1, Post r M1 → G E x M1 (pc + 3) lv (.int r :: st)) : G E x M pc lv (.int v1 :: .ref (ad E o) :: st) := k_I (fun hP hS hL => run_V X (w_X0_costOf E (xl x) ho h) cw_X0_costOf m180 m181 m182 (af_oc ho) hr rfl hd hW hP hS hL) kk
theorem cl_X11_163 {E : Ek} {x : MC} {cc : ByteArray} {nL hm pc : Nat} {M : Mem} {lv : List (Nat × Value)} {st : List Value} (X : Cx E x cc nL RX11 hm) {o : Nat} {v1 : Int32} (ho : Aff o) {Post : Int32 → Mem → Prop} (hr : 2 < hm) (hW : (st.map fun v => v.category).sum ≤ 8) (hd : decode cc pc = .ok (.invokevirtual 163, 3)) (h : wp_X0_costOf Post M o v1) (kk : ∀ r M1, Post r M1 → G E x M1 (pc + 3) lv (.int r :: st)) : G E x M pc lv (.int v1 :: .ref (ad E o) :: st) := k_I (fun hP hS hL => run_VN X (w_X0_costOf E (xl x) ho h) cw_X0_costOf m260 m181 m182 (af_oc ho) hr rfl hd hW hP hS hL) kk
theorem cw_X0_mayPay : CW yX0_mayPay cX0_mayPay 4 (some .boolean) 1 := ⟨m185, m144, Nat.le_of_ble_eq_true rfl, by decide +kernel⟩
def wp_X0_mayPay (Post : Int32 → Mem → Prop) (M : Mem) (o : Nat) (v1 : Int32) : Prop :=
 vp_in v1 4 ∧
 ∀ x2_1 : Int32, x2_1 = rd M 8 v1.toNatClampNeg →
 vp_in v1 4 ∧
 (¬ (rd M (o + 5) v1.toNatClampNeg) = 0 →
  Post 0 M) ∧
 ((rd M (o + 5) v1.toNatClampNeg) = 0 →
  vp_in x2_1 4 ∧
  wp_X0_costOf (fun r2 M3 =>
   (r2 ≤ (rd M (o + 1) x2_1.toNatClampNeg) →
    vp_in v1 4 ∧
    ∀ x3_4 : Int32, x3_4 = rd M3 10 v1.toNatClampNeg →
    vp_in x2_1 4 ∧
    vp_in x2_1 4 ∧
    (¬ (rd M3 (o + 2) x2_1.toNatClampNeg) = x3_4 →
     vp_in v1 4 ∧
     vp_in (rd M3 9 v1.toNatClampNeg) 4 ∧
     (¬ (rd M3 (o + 2) (rd M3 9 v1.toNatClampNeg).toNatClampNeg) = x3_4 →
      wpv_mayPayFrom (fun r5 M6 =>
       zb r5 ∧ Post r5 M6) M3 (11 + x2_1.toNatClampNeg) 0 0) ∧
     ((rd M3 (o + 2) (rd M3 9 v1.toNatClampNeg).toNatClampNeg) = x3_4 →
      wpv_mayPayFrom (fun r7 M8 =>
       zb r7 ∧ Post r7 M8) M3 (11 + x2_1.toNatClampNeg) 0 1)) ∧
    ((rd M3 (o + 2) x2_1.toNatClampNeg) = x3_4 →
     vp_in v1 4 ∧
     vp_in (rd M3 9 v1.toNatClampNeg) 4 ∧
     (¬ (rd M3 (o + 2) (rd M3 9 v1.toNatClampNeg).toNatClampNeg) = x3_4 →
      wpv_mayPayFrom (fun r9 M10 =>
       zb r9 ∧ Post r9 M10) M3 (11 + x2_1.toNatClampNeg) 1 0) ∧
     ((rd M3 (o + 2) (rd M3 9 v1.toNatClampNeg).toNatClampNeg) = x3_4 →
      wpv_mayPayFrom (fun r11 M12 =>
       zb r11 ∧ Post r11 M12) M3 (11 + x2_1.toNatClampNeg) 1 1))) ∧
   (¬ r2 ≤ (rd M (o + 1) x2_1.toNatClampNeg) →
    Post 0 M3)) M o v1)
theorem w_X0_mayPay (E : Ek) (l : Launch) {o : Nat} {v1 : Int32} (ho : Aff o) {M : Mem} {Post : Int32 → Mem → Prop} (h : wp_X0_mayPay Post M o v1) : ctI E l yX0_mayPay cX0_mayPay 4 (some .boolean) 3 [.ref (ad E o), .int v1] M Post := by
  refine ct_of (by decide) (Nat.le_of_ble_eq_true rfl) (fun x X hQ => ?_)
  change G E x M 0 [(0, .ref (ad E o)), (1, .int v1)] []
  refine g_aload_n X dX0_mayPay_0 rfl 0 rfl ?_
  refine fg_X0_34 X ho dX0_mayPay_1 ?_
  refine fg_X0_71 X dX0_mayPay_4 ?_
  refine g_iload_n X dX0_mayPay_7 rfl 1 rfl ?_
  refine g_iald X ia_8 dX0_mayPay_8 h (fun h => ?_)
  refine g_nm h (fun x2_1 h => ?_)
  refine g_istore_n (lv' := [(0, .ref (ad E o)), (1, .int v1), (2, .int x2_1)]) X dX0_mayPay_9 rfl (Nat.le_of_ble_eq_true rfl) rfl rfl ?_
  refine g_aload_n X dX0_mayPay_10 rfl 0 rfl ?_
  refine fg_X0_24 X ho dX0_mayPay_11 ?_
  refine g_iload_n X dX0_mayPay_14 rfl 1 rfl ?_
  refine g_zald X (af_za5 ho) dX0_mayPay_15 h (fun h => ?_)
  refine g_ifne (tgt := 33) X dX0_mayPay_16 (by decide) h (fun h => ?_) (fun h => ?_)
  · refine g_iconst (v := 0) X dX0_mayPay_33 (by decide) ?_
    exact g_zret X hQ dX0_mayPay_34 ⟨Or.inl rfl, h⟩
  · refine g_aload_n X dX0_mayPay_19 rfl 0 rfl ?_
    refine fg_X0_9 X ho dX0_mayPay_20 ?_
    refine g_iload_n X dX0_mayPay_23 rfl 2 rfl ?_
    refine g_iald X (af_ia1 ho) dX0_mayPay_24 h (fun h => ?_)
    refine g_aload_n X dX0_mayPay_25 rfl 0 rfl ?_
    refine g_iload_n X dX0_mayPay_26 rfl 1 rfl ?_
    refine cl_X0_78 X ho (by decide) (Nat.le_of_ble_eq_true rfl) dX0_mayPay_27 h (fun r2 M3 h => ?_)
    refine g_icmpge (tgt := 35) X dX0_mayPay_30 (by decide) h (fun h => ?_) (fun h => ?_)
    · refine g_aload_n X dX0_mayPay_35 rfl 0 rfl ?_
      refine fg_X0_34 X ho dX0_mayPay_36 ?_
      refine fg_X0_81 X dX0_mayPay_39 ?_
      refine g_iload_n X dX0_mayPay_42 rfl 1 rfl ?_
      refine g_iald X ia_10 dX0_mayPay_43 h (fun h => ?_)
      refine g_nm h (fun x3_4 h => ?_)
      refine g_istore_n (lv' := [(0, .ref (ad E o)), (1, .int v1), (2, .int x2_1), (3, .int x3_4)]) X dX0_mayPay_44 rfl (Nat.le_of_ble_eq_true rfl) rfl rfl ?_
      refine g_aload_n X dX0_mayPay_45 rfl 0 rfl ?_
      refine fg_X0_34 X ho dX0_mayPay_46 ?_
      refine fg_X0_50 X dX0_mayPay_49 ?_
      refine g_iload_n X dX0_mayPay_52 rfl 2 rfl ?_
      refine g_pald X dX0_mayPay_53 h (fun hi1 h => ?_)
      refine g_aload_n X dX0_mayPay_54 rfl 0 rfl ?_
      refine fg_X0_15 X ho dX0_mayPay_55 ?_
      refine g_iload_n X dX0_mayPay_58 rfl 2 rfl ?_
      refine g_iald X (af_ia2 ho) dX0_mayPay_59 h (fun h => ?_)
      refine g_iload_n X dX0_mayPay_60 rfl 3 rfl ?_
      refine g_icmpne (tgt := 68) X dX0_mayPay_61 (by decide) h (fun h => ?_) (fun h => ?_)
      · refine g_iconst (v := 0) X dX0_mayPay_68 (by decide) ?_
        refine g_aload_n X dX0_mayPay_69 rfl 0 rfl ?_
        refine fg_X0_15 X ho dX0_mayPay_70 ?_
        refine g_aload_n X dX0_mayPay_73 rfl 0 rfl ?_
        refine fg_X0_34 X ho dX0_mayPay_74 ?_
        refine fg_X0_84 X dX0_mayPay_77 ?_
        refine g_iload_n X dX0_mayPay_80 rfl 1 rfl ?_
        refine g_iald X ia_9 dX0_mayPay_81 h (fun h => ?_)
        refine g_iald X (af_ia2 ho) dX0_mayPay_82 h (fun h => ?_)
        refine g_iload_n X dX0_mayPay_83 rfl 3 rfl ?_
        refine g_icmpne (tgt := 91) X dX0_mayPay_84 (by decide) h (fun h => ?_) (fun h => ?_)
        · refine g_iconst (v := 0) X dX0_mayPay_91 (by decide) ?_
          refine cv_X0_87 X (prs_of hi1) (by decide) (Nat.le_of_ble_eq_true rfl) dX0_mayPay_92 h (fun r5 M6 h => ?_)
          exact g_zret X hQ dX0_mayPay_95 h
        · refine g_iconst (v := 1) X dX0_mayPay_87 (by decide) ?_
          refine g_goto (tgt := 92) X dX0_mayPay_88 (by decide) ?_
          refine cv_X0_87 X (prs_of hi1) (by decide) (Nat.le_of_ble_eq_true rfl) dX0_mayPay_92 h (fun r7 M8 h => ?_)
          exact g_zret X hQ dX0_mayPay_95 h
      · refine g_iconst (v := 1) X dX0_mayPay_64 (by decide) ?_
        refine g_goto (tgt := 69) X dX0_mayPay_65 (by decide) ?_
        refine g_aload_n X dX0_mayPay_69 rfl 0 rfl ?_
        refine fg_X0_15 X ho dX0_mayPay_70 ?_
        refine g_aload_n X dX0_mayPay_73 rfl 0 rfl ?_
        refine fg_X0_34 X ho dX0_mayPay_74 ?_
        refine fg_X0_84 X dX0_mayPay_77 ?_
        refine g_iload_n X dX0_mayPay_80 rfl 1 rfl ?_
        refine g_iald X ia_9 dX0_mayPay_81 h (fun h => ?_)
        refine g_iald X (af_ia2 ho) dX0_mayPay_82 h (fun h => ?_)
        refine g_iload_n X dX0_mayPay_83 rfl 3 rfl ?_
        refine g_icmpne (tgt := 91) X dX0_mayPay_84 (by decide) h (fun h => ?_) (fun h => ?_)
        · refine g_iconst (v := 0) X dX0_mayPay_91 (by decide) ?_
          refine cv_X0_87 X (prs_of hi1) (by decide) (Nat.le_of_ble_eq_true rfl) dX0_mayPay_92 h (fun r9 M10 h => ?_)
          exact g_zret X hQ dX0_mayPay_95 h
        · refine g_iconst (v := 1) X dX0_mayPay_87 (by decide) ?_
          refine g_goto (tgt := 92) X dX0_mayPay_88 (by decide) ?_
          refine cv_X0_87 X (prs_of hi1) (by decide) (Nat.le_of_ble_eq_true rfl) dX0_mayPay_92 h (fun r11 M12 h => ?_)
          exact g_zret X hQ dX0_mayPay_95 h
    · refine g_iconst (v := 0) X dX0_mayPay_33 (by decide) ?_
      exact g_zret X hQ dX0_mayPay_34 ⟨Or.inl rfl, h⟩
theorem cl_X0_98 {E : Ek} {x : MC} {cc : ByteArray} {nL hm pc : Nat} {M : Mem} {lv : List (Nat × Value)} {st : List Value} (X : Cx E x cc nL RX0 hm) {o : Nat} {v1 : Int32} (ho : Aff o) {Post : Int32 → Mem → Prop} (hr : 3 < hm) (hW : (st.map fun v => v.category).sum ≤ 8) (hd : decode cc pc = .ok (.invokevirtual 98, 3)) (h : wp_X0_mayPay Post M o v1) (kk : ∀ r M1, Post r M1 → G E x M1 (pc + 3) lv (.int r :: st)) : G E x M pc lv (.int v1 :: .ref (ad E o) :: st) := k_I (fun hP hS hL => run_V X (w_X0_mayPay E (xl x) ho h) cw_X0_mayPay m187 m188 m189 (af_oc ho) hr rfl hd hW hP hS hL) kk
theorem cl_X11_183 {E : Ek} {x : MC} {cc : ByteArray} {nL hm pc : Nat} {M : Mem} {lv : List (Nat × Value)} {st : List Value} (X : Cx E x cc nL RX11 hm) {o : Nat} {v1 : Int32} (ho : Aff o) {Post : Int32 → Mem → Prop} (hr : 3 < hm) (hW : (st.map fun v => v.category).sum ≤ 8) (hd : decode cc pc = .ok (.invokevirtual 183, 3)) (h : wp_X0_mayPay Post M o v1) (kk : ∀ r M1, Post r M1 → G E x M1 (pc + 3) lv (.int r :: st)) : G E x M pc lv (.int v1 :: .ref (ad E o) :: st) := k_I (fun hP hS hL => run_VN X (w_X0_mayPay E (xl x) ho h) cw_X0_mayPay m279 m188 m189 (af_oc ho) hr rfl hd hW hP hS hL) kk
