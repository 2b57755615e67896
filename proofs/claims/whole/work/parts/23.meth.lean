theorem cw_X4_roomBeyond : CW yX4_roomBeyond cX4_roomBeyond 3 (some .int) 2 := ⟨m263, m148, Nat.le_of_ble_eq_true rfl, by decide +kernel⟩
def wp_X4_roomBeyond (Post : Int32 → Mem → Prop) (M : Mem) (v1 : Int32) (v2 : Int32) : Prop :=
 vp_in v1 6 ∧
 (¬ (rd M 4 v1.toNatClampNeg) = v2 →
  vp_in v1 6 ∧
  Post (rd M 4 v1.toNatClampNeg) M) ∧
 ((rd M 4 v1.toNatClampNeg) = v2 →
  vp_in v1 6 ∧
  Post (rd M 5 v1.toNatClampNeg) M)
theorem w_X4_roomBeyond (E : Ek) (l : Launch) {v1 : Int32} {v2 : Int32} {M : Mem} {Post : Int32 → Mem → Prop} (h : wp_X4_roomBeyond Post M v1 v2) : ctI E l yX4_roomBeyond cX4_roomBeyond 3 (some .int) 1 [.ref (ad E 3), .int v1, .int v2] M Post := by
  refine ct_of (by decide) (Nat.le_of_ble_eq_true rfl) (fun x X hQ => ?_)
  change G E x M 0 [(0, .ref (ad E 3)), (1, .int v1), (2, .int v2)] []
  refine g_aload_n X dX4_roomBeyond_0 rfl 0 rfl ?_
  refine fg_X4_9 X dX4_roomBeyond_1 ?_
  refine g_iload_n X dX4_roomBeyond_4 rfl 1 rfl ?_
  refine g_iald X ia_4 dX4_roomBeyond_5 h (fun h => ?_)
  refine g_iload_n X dX4_roomBeyond_6 rfl 2 rfl ?_
  refine g_icmpne (tgt := 19) X dX4_roomBeyond_7 (by decide) h (fun h => ?_) (fun h => ?_)
  · refine g_aload_n X dX4_roomBeyond_19 rfl 0 rfl ?_
    refine fg_X4_9 X dX4_roomBeyond_20 ?_
    refine g_iload_n X dX4_roomBeyond_23 rfl 1 rfl ?_
    refine g_iald X ia_4 dX4_roomBeyond_24 h (fun h => ?_)
    exact g_iret X hQ dX4_roomBeyond_25 h
  · refine g_aload_n X dX4_roomBeyond_10 rfl 0 rfl ?_
    refine fg_X4_15 X dX4_roomBeyond_11 ?_
    refine g_iload_n X dX4_roomBeyond_14 rfl 1 rfl ?_
    refine g_iald X ia_5 dX4_roomBeyond_15 h (fun h => ?_)
    refine g_goto (tgt := 25) X dX4_roomBeyond_16 (by decide) ?_
    exact g_iret X hQ dX4_roomBeyond_25 h
theorem cl_X0_67 {E : Ek} {x : MC} {cc : ByteArray} {nL hm pc : Nat} {M : Mem} {lv : List (Nat × Value)} {st : List Value} (X : Cx E x cc nL RX0 hm) {v1 : Int32} {v2 : Int32} {Post : Int32 → Mem → Prop} (hr : 1 < hm) (hW : (st.map fun v => v.category).sum ≤ 8) (hd : decode cc pc = .ok (.invokevirtual 67, 3)) (h : wp_X4_roomBeyond Post M v1 v2) (kk : ∀ r M1, Post r M1 → G E x M1 (pc + 3) lv (.int r :: st)) : G E x M pc lv (.int v2 :: .int v1 :: .ref (ad E 3) :: st) := k_I (fun hP hS hL => run_VN X (w_X4_roomBeyond E (xl x)  h) cw_X4_roomBeyond m264 m265 m266 (⟨by decide, fun E f h => ⟨_, _, _, rfl, rfl, rfl⟩⟩ : OC 3 RX4) hr rfl hd hW hP hS hL) kk
theorem cl_X10_38 {E : Ek} {x : MC} {cc : ByteArray} {nL hm pc : Nat} {M : Mem} {lv : List (Nat × Value)} {st : List Value} (X : Cx E x cc nL RX10 hm) {v1 : Int32} {v2 : Int32} {Post : Int32 → Mem → Prop} (hr : 1 < hm) (hW : (st.map fun v => v.category).sum ≤ 8) (hd : decode cc pc = .ok (.invokevirtual 38, 3)) (h : wp_X4_roomBeyond Post M v1 v2) (kk : ∀ r M1, Post r M1 → G E x M1 (pc + 3) lv (.int r :: st)) : G E x M pc lv (.int v2 :: .int v1 :: .ref (ad E 3) :: st) := k_I (fun hP hS hL => run_VN X (w_X4_roomBeyond E (xl x)  h) cw_X4_roomBeyond m307 m265 m266 (⟨by decide, fun E f h => ⟨_, _, _, rfl, rfl, rfl⟩⟩ : OC 3 RX4) hr rfl hd hW hP hS hL) kk
theorem cw_X0_goThrough : CW yX0_goThrough cX0_goThrough 3 none 2 := ⟨m268, m144, Nat.le_of_ble_eq_true rfl, by decide +kernel⟩
def wp_X0_goThrough (Post : Mem → Prop) (M : Mem) (o : Nat) (v1 : Int32) (v2 : Int32) : Prop :=
 vp_in v1 4 ∧
 wp_X4_roomBeyond (fun r1 M2 =>
  vp_in v1 4 ∧
  ∀ M3 : Mem, M3 = wr M2 (o + 2) v1.toNatClampNeg r1 →
  ∀ M4 : Mem, M4 = wr M3 o 9 ((rd M3 o 9) + 1) →
  Post M4) M v2 (rd M (o + 2) v1.toNatClampNeg)
theorem w_X0_goThrough (E : Ek) (l : Launch) {o : Nat} {v1 : Int32} {v2 : Int32} (ho : Aff o) {M : Mem} {Post : Mem → Prop} (h : wp_X0_goThrough Post M o v1 v2) : ctV E l yX0_goThrough cX0_goThrough 3 none 2 [.ref (ad E o), .int v1, .int v2] M Post := by
  refine ct_of (by decide) (Nat.le_of_ble_eq_true rfl) (fun x X hQ => ?_)
  change G E x M 0 [(0, .ref (ad E o)), (1, .int v1), (2, .int v2)] []
  refine g_aload_n X dX0_goThrough_0 rfl 0 rfl ?_
  refine fg_X0_15 X ho dX0_goThrough_1 ?_
  refine g_iload_n X dX0_goThrough_4 rfl 1 rfl ?_
  refine g_aload_n X dX0_goThrough_5 rfl 0 rfl ?_
  refine fg_X0_34 X ho dX0_goThrough_6 ?_
  refine g_iload_n X dX0_goThrough_9 rfl 2 rfl ?_
  refine g_aload_n X dX0_goThrough_10 rfl 0 rfl ?_
  refine fg_X0_15 X ho dX0_goThrough_11 ?_
  refine g_iload_n X dX0_goThrough_14 rfl 1 rfl ?_
  refine g_iald X (af_ia2 ho) dX0_goThrough_15 h (fun h => ?_)
  refine cl_X0_67 X (by decide) (Nat.le_of_ble_eq_true rfl) dX0_goThrough_16 h (fun r1 M2 h => ?_)
  refine g_iast X (af_ia2 ho) dX0_goThrough_19 h (fun M3 h => ?_)
  refine g_aload_n X dX0_goThrough_20 rfl 0 rfl ?_
  refine g_dup X dX0_goThrough_21 rfl ?_
  refine fg_X0_42 X ho dX0_goThrough_22 ?_
  refine g_iconst (v := 1) X dX0_goThrough_25 (by decide) ?_
  refine g_iadd X dX0_goThrough_26 ?_
  refine fp_X0_42 X ho dX0_goThrough_27 h (fun M4 h => ?_)
  exact g_vret X hQ dX0_goThrough_30 h
theorem cl_X11_176 {E : Ek} {x : MC} {cc : ByteArray} {nL hm pc : Nat} {M : Mem} {lv : List (Nat × Value)} {st : List Value} (X : Cx E x cc nL RX11 hm) {o : Nat} {v1 : Int32} {v2 : Int32} (ho : Aff o) {Post : Mem → Prop} (hr : 2 < hm) (hW : (st.map fun v => v.category).sum ≤ 8) (hd : decode cc pc = .ok (.invokevirtual 176, 3)) (h : wp_X0_goThrough Post M o v1 v2) (kk : ∀ M1, Post M1 → G E x M1 (pc + 3) lv st) : G E x M pc lv (.int v2 :: .int v1 :: .ref (ad E o) :: st) := k_V (fun hP hS hL => run_VN X (w_X0_goThrough E (xl x) ho h) cw_X0_goThrough m271 m272 m273 (af_oc ho) hr rfl hd hW hP hS hL) kk
theorem cl_X5_60 {E : Ek} {x : MC} {cc : ByteArray} {nL hm pc : Nat} {M : Mem} {lv : List (Nat × Value)} {st : List Value} (X : Cx E x cc nL RX5 hm) {o : Nat} {v1 : Int32} {v2 : Int32} (ho : Aff o) {Post : Mem → Prop} (hr : 2 < hm) (hW : (st.map fun v => v.category).sum ≤ 8) (hd : decode cc pc = .ok (.invokevirtual 60, 3)) (h : wp_X0_goThrough Post M o v1 v2) (kk : ∀ M1, Post M1 → G E x M1 (pc + 3) lv st) : G E x M pc lv (.int v2 :: .int v1 :: .ref (ad E o) :: st) := k_V (fun hP hS hL => run_VN X (w_X0_goThrough E (xl x) ho h) cw_X0_goThrough m345 m272 m273 (af_oc ho) hr rfl hd hW hP hS hL) kk
theorem cw_X11_go : CW yX11_go cX11_go 3 (some .int) 2 := ⟨m274, m10, Nat.le_of_ble_eq_true rfl, by decide +kernel⟩
def wp_X11_go (Post : Int32 → Mem → Prop) (M : Mem) (v1 : Int32) (v2 : Int32) : Prop :=
 wp_X11_isNobody (fun r1 M2 =>
  (¬ r1 = 0 →
   Post (-101) M2) ∧
  (r1 = 0 →
   wp_X11_isNoDoor (fun r3 M4 =>
    (r3 = 0 →
     wp_X0_mayGo (fun r5 M6 =>
      (¬ r5 = 0 →
       ((rd M6 59 9) < 999 →
        wp_X0_goThrough (fun M8 =>
         vp_in v1 4 ∧
         Post (rd M8 61 v1.toNatClampNeg) M8) M6 59 v1 v2) ∧
       (¬ (rd M6 59 9) < 999 →
        Post (-104) M6)) ∧
      (r5 = 0 →
       Post (-103) M6)) M4 59 v1 v2) ∧
    (¬ r3 = 0 →
     Post (-101) M4)) M2 v2)) M v1
theorem w_X11_go (E : Ek) (l : Launch) {v1 : Int32} {v2 : Int32} {M : Mem} {Post : Int32 → Mem → Prop} (h : wp_X11_go Post M v1 v2) : ctI E l yX11_go cX11_go 3 (some .int) 4 [.ref (ad E 0), .int v1, .int v2] M Post := by
  refine ct_of (by decide) (Nat.le_of_ble_eq_true rfl) (fun x X hQ => ?_)
  change G E x M 0 [(0, .ref (ad E 0)), (1, .int v1), (2, .int v2)] []
  refine g_aload_n X dX11_go_0 rfl 0 rfl ?_
  refine g_iload_n X dX11_go_1 rfl 1 rfl ?_
  refine cl_X11_93 X (by decide) (Nat.le_of_ble_eq_true rfl) dX11_go_2 h (fun r1 M2 h => ?_)
  refine g_ifne (tgt := 16) X dX11_go_5 (by decide) h (fun h => ?_) (fun h => ?_)
  · refine g_bipush (v := (-101)) X dX11_go_16 (by decide) ?_
    exact g_iret X hQ dX11_go_18 h
  · refine g_aload_n X dX11_go_8 rfl 0 rfl ?_
    refine g_iload_n X dX11_go_9 rfl 2 rfl ?_
    refine cl_X11_136 X (by decide) (Nat.le_of_ble_eq_true rfl) dX11_go_10 h (fun r3 M4 h => ?_)
    refine g_ifeq (tgt := 19) X dX11_go_13 (by decide) h (fun h => ?_) (fun h => ?_)
    · refine g_aload_n X dX11_go_19 rfl 0 rfl ?_
      refine fg_X11_28 X dX11_go_20 ?_
      refine g_iload_n X dX11_go_23 rfl 1 rfl ?_
      refine g_iload_n X dX11_go_24 rfl 2 rfl ?_
      refine cl_X11_170 X aff_59 (by decide) (Nat.le_of_ble_eq_true rfl) dX11_go_25 h (fun r5 M6 h => ?_)
      refine g_ifne (tgt := 34) X dX11_go_28 (by decide) h (fun h => ?_) (fun h => ?_)
      · refine g_aload_n X dX11_go_34 rfl 0 rfl ?_
        refine fg_X11_28 X dX11_go_35 ?_
        refine fg_X11_173 X aff_59 dX11_go_38 ?_
        refine g_sipush (v := 999) X dX11_go_41 (by decide) ?_
        refine g_icmplt (tgt := 50) X dX11_go_44 (by decide) h (fun h => ?_) (fun h => ?_)
        · refine g_aload_n X dX11_go_50 rfl 0 rfl ?_
          refine fg_X11_28 X dX11_go_51 ?_
          refine g_iload_n X dX11_go_54 rfl 1 rfl ?_
          refine g_iload_n X dX11_go_55 rfl 2 rfl ?_
          refine cl_X11_176 X aff_59 (by decide) (Nat.le_of_ble_eq_true rfl) dX11_go_56 h (fun M8 h => ?_)
          refine g_aload_n X dX11_go_59 rfl 0 rfl ?_
          refine fg_X11_28 X dX11_go_60 ?_
          refine fg_X11_110 X aff_59 dX11_go_63 ?_
          refine g_iload_n X dX11_go_66 rfl 1 rfl ?_
          refine g_iald X (af_ia2 aff_59) dX11_go_67 h (fun h => ?_)
          exact g_iret X hQ dX11_go_68 h
        · refine g_bipush (v := (-104)) X dX11_go_47 (by decide) ?_
          exact g_iret X hQ dX11_go_49 h
      · refine g_bipush (v := (-103)) X dX11_go_31 (by decide) ?_
        exact g_iret X hQ dX11_go_33 h
    · refine g_bipush (v := (-101)) X dX11_go_16 (by decide) ?_
      exact g_iret X hQ dX11_go_18 h
theorem cw_X11_give : CW yX11_give cX11_give 4 (some .int) 2 := ⟨m276, m10, Nat.le_of_ble_eq_true rfl, by decide +kernel⟩
def wp_X11_give (Post : Int32 → Mem → Prop) (M : Mem) (v1 : Int32) (v2 : Int32) : Prop :=
 (v1 < 0 →
  Post (-101) M) ∧
 (¬ v1 < 0 →
  (2 ≤ v1 →
   Post (-101) M) ∧
  (¬ 2 ≤ v1 →
   wp_X11_isNobody (fun r1 M2 =>
    (r1 = 0 →
     vp_in v1 2 ∧
     ∀ x3_3 : Int32, x3_3 = rd M2 62 v1.toNatClampNeg →
     (x3_3 = v2 →
      Post (-103) M2) ∧
     (¬ x3_3 = v2 →
      vp_in x3_3 4 ∧
      vp_in v2 4 ∧
      ((rd M2 61 x3_3.toNatClampNeg) = (rd M2 61 v2.toNatClampNeg) →
       vp_in v1 2 ∧
       ∀ M4 : Mem, M4 = wr M2 62 v1.toNatClampNeg v2 →
       Post x3_3 M4) ∧
      (¬ (rd M2 61 x3_3.toNatClampNeg) = (rd M2 61 v2.toNatClampNeg) →
       Post (-103) M2))) ∧
    (¬ r1 = 0 →
     Post (-101) M2)) M v2))
theorem w_X11_give (E : Ek) (l : Launch) {v1 : Int32} {v2 : Int32} {M : Mem} {Post : Int32 → Mem → Prop} (h : wp_X11_give Post M v1 v2) : ctI E l yX11_give cX11_give 4 (some .int) 2 [.ref (ad E 0), .int v1, .int v2] M Post := by
  refine ct_of (by decide) (Nat.le_of_ble_eq_true rfl) (fun x X hQ => ?_)
  change G E x M 0 [(0, .ref (ad E 0)), (1, .int v1), (2, .int v2)] []
  refine g_iload_n X dX11_give_0 rfl 1 rfl ?_
  refine g_iflt (tgt := 17) X dX11_give_1 (by decide) h (fun h => ?_) (fun h => ?_)
  · refine g_bipush (v := (-101)) X dX11_give_17 (by decide) ?_
    exact g_iret X hQ dX11_give_19 h
  · refine g_iload_n X dX11_give_4 rfl 1 rfl ?_
    refine g_iconst (v := 2) X dX11_give_5 (by decide) ?_
    refine g_icmpge (tgt := 17) X dX11_give_6 (by decide) h (fun h => ?_) (fun h => ?_)
    · refine g_bipush (v := (-101)) X dX11_give_17 (by decide) ?_
      exact g_iret X hQ dX11_give_19 h
    · refine g_aload_n X dX11_give_9 rfl 0 rfl ?_
      refine g_iload_n X dX11_give_10 rfl 2 rfl ?_
      refine cl_X11_93 X (by decide) (Nat.le_of_ble_eq_true rfl) dX11_give_11 h (fun r1 M2 h => ?_)
      refine g_ifeq (tgt := 20) X dX11_give_14 (by decide) h (fun h => ?_) (fun h => ?_)
      · refine g_aload_n X dX11_give_20 rfl 0 rfl ?_
        refine fg_X11_28 X dX11_give_21 ?_
        refine fg_X11_180 X aff_59 dX11_give_24 ?_
        refine g_iload_n X dX11_give_27 rfl 1 rfl ?_
        refine g_iald X (af_ia3 aff_59) dX11_give_28 h (fun h => ?_)
        refine g_nm h (fun x3_3 h => ?_)
        refine g_istore_n (lv' := [(0, .ref (ad E 0)), (1, .int v1), (2, .int v2), (3, .int x3_3)]) X dX11_give_29 rfl (Nat.le_of_ble_eq_true rfl) rfl rfl ?_
        refine g_iload_n X dX11_give_30 rfl 3 rfl ?_
        refine g_iload_n X dX11_give_31 rfl 2 rfl ?_
        refine g_icmpeq (tgt := 56) X dX11_give_32 (by decide) h (fun h => ?_) (fun h => ?_)
        · refine g_bipush (v := (-103)) X dX11_give_56 (by decide) ?_
          exact g_iret X hQ dX11_give_58 h
        · refine g_aload_n X dX11_give_35 rfl 0 rfl ?_
          refine fg_X11_28 X dX11_give_36 ?_
          refine fg_X11_110 X aff_59 dX11_give_39 ?_
          refine g_iload_n X dX11_give_42 rfl 3 rfl ?_
          refine g_iald X (af_ia2 aff_59) dX11_give_43 h (fun h => ?_)
          refine g_aload_n X dX11_give_44 rfl 0 rfl ?_
          refine fg_X11_28 X dX11_give_45 ?_
          refine fg_X11_110 X aff_59 dX11_give_48 ?_
          refine g_iload_n X dX11_give_51 rfl 2 rfl ?_
          refine g_iald X (af_ia2 aff_59) dX11_give_52 h (fun h => ?_)
          refine g_icmpeq (tgt := 59) X dX11_give_53 (by decide) h (fun h => ?_) (fun h => ?_)
          · refine g_aload_n X dX11_give_59 rfl 0 rfl ?_
            refine fg_X11_28 X dX11_give_60 ?_
            refine fg_X11_180 X aff_59 dX11_give_63 ?_
            refine g_iload_n X dX11_give_66 rfl 1 rfl ?_
            refine g_iload_n X dX11_give_67 rfl 2 rfl ?_
            refine g_iast X (af_ia3 aff_59) dX11_give_68 h (fun M4 h => ?_)
            refine g_iload_n X dX11_give_69 rfl 3 rfl ?_
            exact g_iret X hQ dX11_give_70 h
          · refine g_bipush (v := (-103)) X dX11_give_56 (by decide) ?_
            exact g_iret X hQ dX11_give_58 h
      · refine g_bipush (v := (-101)) X dX11_give_17 (by decide) ?_
        exact g_iret X hQ dX11_give_19 h
theorem cw_X0_settle : CW yX0_settle cX0_settle 3 none 1 := ⟨m278, m144, Nat.le_of_ble_eq_true rfl, by decide +kernel⟩
def wp_X0_settle (Post : Mem → Prop) (M : Mem) (o : Nat) (v1 : Int32) : Prop :=
 vp_in v1 4 ∧
 ∀ x2_1 : Int32, x2_1 = rd M 9 v1.toNatClampNeg →
 vp_in v1 4 ∧
 vp_in (rd M 8 v1.toNatClampNeg) 4 ∧
 wp_X0_costOf (fun r2 M3 =>
  vp_in (rd M 8 v1.toNatClampNeg) 4 ∧
  ∀ M4 : Mem, M4 = wr M3 (o + 1) (rd M 8 v1.toNatClampNeg).toNatClampNeg ((rd M (o + 1) (rd M 8 v1.toNatClampNeg).toNatClampNeg) - r2) →
  vp_in x2_1 4 ∧
  vp_in v1 4 ∧
  vp_in x2_1 4 ∧
  ∀ M5 : Mem, M5 = wr M4 (o + 1) x2_1.toNatClampNeg (if ((rd M4 (o + 1) x2_1.toNatClampNeg) + (rd M4 (o + 4) v1.toNatClampNeg)) < 99 then ((rd M4 (o + 1) x2_1.toNatClampNeg) + (rd M4 (o + 4) v1.toNatClampNeg)) else 99) →
  vp_in v1 4 ∧
  ∀ M6 : Mem, M6 = wr M5 (o + 5) v1.toNatClampNeg (vp_nar .boolean 1) →
  Post M6) M o v1
theorem w_X0_settle (E : Ek) (l : Launch) {o : Nat} {v1 : Int32} (ho : Aff o) {M : Mem} {Post : Mem → Prop} (h : wp_X0_settle Post M o v1) : ctV E l yX0_settle cX0_settle 3 none 3 [.ref (ad E o), .int v1] M Post := by
  refine ct_of (by decide) (Nat.le_of_ble_eq_true rfl) (fun x X hQ => ?_)
  change G E x M 0 [(0, .ref (ad E o)), (1, .int v1)] []
  refine g_aload_n X dX0_settle_0 rfl 0 rfl ?_
  refine fg_X0_34 X ho dX0_settle_1 ?_
  refine fg_X0_84 X dX0_settle_4 ?_
  refine g_iload_n X dX0_settle_7 rfl 1 rfl ?_
  refine g_iald X ia_9 dX0_settle_8 h (fun h => ?_)
  refine g_nm h (fun x2_1 h => ?_)
  refine g_istore_n (lv' := [(0, .ref (ad E o)), (1, .int v1), (2, .int x2_1)]) X dX0_settle_9 rfl (Nat.le_of_ble_eq_true rfl) rfl rfl ?_
  refine g_aload_n X dX0_settle_10 rfl 0 rfl ?_
  refine fg_X0_9 X ho dX0_settle_11 ?_
  refine g_aload_n X dX0_settle_14 rfl 0 rfl ?_
  refine fg_X0_34 X ho dX0_settle_15 ?_
  refine fg_X0_71 X dX0_settle_18 ?_
  refine g_iload_n X dX0_settle_21 rfl 1 rfl ?_
  refine g_iald X ia_8 dX0_settle_22 h (fun h => ?_)
  refine g_dup2 X dX0_settle_23 rfl rfl ?_
  refine g_iald X (af_ia1 ho) dX0_settle_24 h (fun h => ?_)
  refine g_aload_n X dX0_settle_25 rfl 0 rfl ?_
  refine g_iload_n X dX0_settle_26 rfl 1 rfl ?_
  refine cl_X0_78 X ho (by decide) (Nat.le_of_ble_eq_true rfl) dX0_settle_27 h (fun r2 M3 h => ?_)
  refine g_isub X dX0_settle_30 ?_
  refine g_iast X (af_ia1 ho) dX0_settle_31 h (fun M4 h => ?_)
  refine g_aload_n X dX0_settle_32 rfl 0 rfl ?_
  refine fg_X0_9 X ho dX0_settle_33 ?_
  refine g_iload_n X dX0_settle_36 rfl 2 rfl ?_
  refine g_bipush (v := 99) X dX0_settle_37 (by decide) ?_
  refine g_aload_n X dX0_settle_39 rfl 0 rfl ?_
  refine fg_X0_9 X ho dX0_settle_40 ?_
  refine g_iload_n X dX0_settle_43 rfl 2 rfl ?_
  refine g_iald X (af_ia1 ho) dX0_settle_44 h (fun h => ?_)
  refine g_aload_n X dX0_settle_45 rfl 0 rfl ?_
  refine fg_X0_21 X ho dX0_settle_46 ?_
  refine g_iload_n X dX0_settle_49 rfl 1 rfl ?_
  refine g_iald X (af_ia4 ho) dX0_settle_50 h (fun h => ?_)
  refine g_iadd X dX0_settle_51 ?_
  refine g_mmin X dX0_settle_52 ma277 ma50 ma52 ma51 (Nat.le_of_ble_eq_true rfl) (Nat.le_of_ble_eq_true rfl) ?_
  refine g_iast X (af_ia1 ho) dX0_settle_55 h (fun M5 h => ?_)
  refine g_aload_n X dX0_settle_56 rfl 0 rfl ?_
  refine fg_X0_24 X ho dX0_settle_57 ?_
  refine g_iload_n X dX0_settle_60 rfl 1 rfl ?_
  refine g_iconst (v := 1) X dX0_settle_61 (by decide) ?_
  refine g_zast X (af_za5 ho) dX0_settle_62 h (fun M6 h => ?_)
  exact g_vret X hQ dX0_settle_63 h
theorem cl_X11_186 {E : Ek} {x : MC} {cc : ByteArray} {nL hm pc : Nat} {M : Mem} {lv : List (Nat × Value)} {st : List Value} (X : Cx E x cc nL RX11 hm) {o : Nat} {v1 : Int32} (ho : Aff o) {Post : Mem → Prop} (hr : 3 < hm) (hW : (st.map fun v => v.category).sum ≤ 8) (hd : decode cc pc = .ok (.invokevirtual 186, 3)) (h : wp_X0_settle Post M o v1) (kk : ∀ M1, Post M1 → G E x M1 (pc + 3) lv st) : G E x M pc lv (.int v1 :: .ref (ad E o) :: st) := k_V (fun hP hS hL => run_VN X (w_X0_settle E (xl x) ho h) cw_X0_settle m280 m281 m282 (af_oc ho) hr rfl hd hW hP hS hL) kk
theorem cl_X0_102 {E : Ek} {x : MC} {cc : ByteArray} {nL hm pc : Nat} {M : Mem} {lv : List (Nat × Value)} {st : List Value} (X : Cx E x cc nL RX0 hm) {o : Nat} {v1 : Int32} (ho : Aff o) {Post : Mem → Prop} (hr : 3 < hm) (hW : (st.map fun v => v.category).sum ≤ 8) (hd : decode cc pc = .ok (.invokevirtual 102, 3)) (h : wp_X0_settle Post M o v1) (kk : ∀ M1, Post M1 → G E x M1 (pc + 3) lv st) : G E x M pc lv (.int v1 :: .ref (ad E o) :: st) := k_V (fun hP hS hL => run_V X (w_X0_settle E (xl x) ho h) cw_X0_settle m325 m281 m282 (af_oc ho) hr rfl hd hW hP hS hL) kk
theorem cw_X11_pay : CW yX11_pay cX11_pay 2 (some .int) 1 := ⟨m283, m10, Nat.le_of_ble_eq_true rfl, by decide +kernel⟩
def wp_X11_pay (Post : Int32 → Mem → Prop) (M : Mem) (v1 : Int32) : Prop :=
 wp_X11_isNoDebt (fun r1 M2 =>
  (r1 = 0 →
   wp_X0_mayPay (fun r3 M4 =>
    (¬ r3 = 0 →
     wp_X0_settle (fun M6 =>
      vp_in v1 4 ∧
      vp_in (rd M6 8 v1.toNatClampNeg) 4 ∧
      Post (rd M6 60 (rd M6 8 v1.toNatClampNeg).toNatClampNeg) M6) M4 59 v1) ∧
    (r3 = 0 →
     Post (-103) M4)) M2 59 v1) ∧
  (¬ r1 = 0 →
   Post (-101) M2)) M v1
theorem w_X11_pay (E : Ek) (l : Launch) {v1 : Int32} {M : Mem} {Post : Int32 → Mem → Prop} (h : wp_X11_pay Post M v1) : ctI E l yX11_pay cX11_pay 2 (some .int) 4 [.ref (ad E 0), .int v1] M Post := by
  refine ct_of (by decide) (Nat.le_of_ble_eq_true rfl) (fun x X hQ => ?_)
  change G E x M 0 [(0, .ref (ad E 0)), (1, .int v1)] []
  refine g_aload_n X dX11_pay_0 rfl 0 rfl ?_
  refine g_iload_n X dX11_pay_1 rfl 1 rfl ?_
  refine cl_X11_148 X (by decide) (Nat.le_of_ble_eq_true rfl) dX11_pay_2 h (fun r1 M2 h => ?_)
  refine g_ifeq (tgt := 11) X dX11_pay_5 (by decide) h (fun h => ?_) (fun h => ?_)
  · refine g_aload_n X dX11_pay_11 rfl 0 rfl ?_
    refine fg_X11_28 X dX11_pay_12 ?_
    refine g_iload_n X dX11_pay_15 rfl 1 rfl ?_
    refine cl_X11_183 X aff_59 (by decide) (Nat.le_of_ble_eq_true rfl) dX11_pay_16 h (fun r3 M4 h => ?_)
    refine g_ifne (tgt := 25) X dX11_pay_19 (by decide) h (fun h => ?_) (fun h => ?_)
    · refine g_aload_n X dX11_pay_25 rfl 0 rfl ?_
      refine fg_X11_28 X dX11_pay_26 ?_
      refine g_iload_n X dX11_pay_29 rfl 1 rfl ?_
      refine cl_X11_186 X aff_59 (by decide) (Nat.le_of_ble_eq_true rfl) dX11_pay_30 h (fun M6 h => ?_)
      refine g_aload_n X dX11_pay_33 rfl 0 rfl ?_
      refine fg_X11_28 X dX11_pay_34 ?_
      refine fg_X11_106 X aff_59 dX11_pay_37 ?_
      refine g_aload_n X dX11_pay_40 rfl 0 rfl ?_
      refine fg_X11_19 X dX11_pay_41 ?_
      refine fg_X11_151 X dX11_pay_44 ?_
      refine g_iload_n X dX11_pay_47 rfl 1 rfl ?_
      refine g_iald X ia_8 dX11_pay_48 h (fun h => ?_)
      refine g_iald X (af_ia1 aff_59) dX11_pay_49 h (fun h => ?_)
      exact g_iret X hQ dX11_pay_50 h
    · refine g_bipush (v := (-103)) X dX11_pay_22 (by decide) ?_
      exact g_iret X hQ dX11_pay_24 h
  · refine g_bipush (v := (-101)) X dX11_pay_8 (by decide) ?_
    exact g_iret X hQ dX11_pay_10 h
theorem cw_X11_earn : CW yX11_earn cX11_earn 3 (some .int) 2 := ⟨m284, m10, Nat.le_of_ble_eq_true rfl, by decide +kernel⟩
def wp_X11_earn (Post : Int32 → Mem → Prop) (M : Mem) (v1 : Int32) (v2 : Int32) : Prop :=
 wp_X11_isNobody (fun r1 M2 =>
  (r1 = 0 →
   (v2 < 1 →
    Post (-102) M2) ∧
   (¬ v2 < 1 →
    (v2 ≤ 9 →
     vp_in v1 4 ∧
     (((rd M2 60 v1.toNatClampNeg) + v2) ≤ 99 →
      vp_in v1 4 ∧
      vp_in v1 4 ∧
      ∀ M3 : Mem, M3 = wr M2 60 v1.toNatClampNeg ((rd M2 60 v1.toNatClampNeg) + v2) →
      vp_in v1 4 ∧
      Post (rd M3 60 v1.toNatClampNeg) M3) ∧
     (¬ ((rd M2 60 v1.toNatClampNeg) + v2) ≤ 99 →
      Post (-104) M2)) ∧
    (¬ v2 ≤ 9 →
     Post (-102) M2))) ∧
  (¬ r1 = 0 →
   Post (-101) M2)) M v1
theorem w_X11_earn (E : Ek) (l : Launch) {v1 : Int32} {v2 : Int32} {M : Mem} {Post : Int32 → Mem → Prop} (h : wp_X11_earn Post M v1 v2) : ctI E l yX11_earn cX11_earn 3 (some .int) 2 [.ref (ad E 0), .int v1, .int v2] M Post := by
  refine ct_of (by decide) (Nat.le_of_ble_eq_true rfl) (fun x X hQ => ?_)
  change G E x M 0 [(0, .ref (ad E 0)), (1, .int v1), (2, .int v2)] []
  refine g_aload_n X dX11_earn_0 rfl 0 rfl ?_
  refine g_iload_n X dX11_earn_1 rfl 1 rfl ?_
  refine cl_X11_93 X (by decide) (Nat.le_of_ble_eq_true rfl) dX11_earn_2 h (fun r1 M2 h => ?_)
  refine g_ifeq (tgt := 11) X dX11_earn_5 (by decide) h (fun h => ?_) (fun h => ?_)
  · refine g_iload_n X dX11_earn_11 rfl 2 rfl ?_
    refine g_iconst (v := 1) X dX11_earn_12 (by decide) ?_
    refine g_icmplt (tgt := 22) X dX11_earn_13 (by decide) h (fun h => ?_) (fun h => ?_)
    · refine g_bipush (v := (-102)) X dX11_earn_22 (by decide) ?_
      exact g_iret X hQ dX11_earn_24 h
    · refine g_iload_n X dX11_earn_16 rfl 2 rfl ?_
      refine g_bipush (v := 9) X dX11_earn_17 (by decide) ?_
      refine g_icmple (tgt := 25) X dX11_earn_19 (by decide) h (fun h => ?_) (fun h => ?_)
      · refine g_aload_n X dX11_earn_25 rfl 0 rfl ?_
        refine fg_X11_28 X dX11_earn_26 ?_
        refine fg_X11_106 X aff_59 dX11_earn_29 ?_
        refine g_iload_n X dX11_earn_32 rfl 1 rfl ?_
        refine g_iald X (af_ia1 aff_59) dX11_earn_33 h (fun h => ?_)
        refine g_iload_n X dX11_earn_34 rfl 2 rfl ?_
        refine g_iadd X dX11_earn_35 ?_
        refine g_bipush (v := 99) X dX11_earn_36 (by decide) ?_
        refine g_icmple (tgt := 44) X dX11_earn_38 (by decide) h (fun h => ?_) (fun h => ?_)
        · refine g_aload_n X dX11_earn_44 rfl 0 rfl ?_
          refine fg_X11_28 X dX11_earn_45 ?_
          refine fg_X11_106 X aff_59 dX11_earn_48 ?_
          refine g_iload_n X dX11_earn_51 rfl 1 rfl ?_
          refine g_dup2 X dX11_earn_52 rfl rfl ?_
          refine g_iald X (af_ia1 aff_59) dX11_earn_53 h (fun h => ?_)
          refine g_iload_n X dX11_earn_54 rfl 2 rfl ?_
          refine g_iadd X dX11_earn_55 ?_
          refine g_iast X (af_ia1 aff_59) dX11_earn_56 h (fun M3 h => ?_)
          refine g_aload_n X dX11_earn_57 rfl 0 rfl ?_
          refine fg_X11_28 X dX11_earn_58 ?_
          refine fg_X11_106 X aff_59 dX11_earn_61 ?_
          refine g_iload_n X dX11_earn_64 rfl 1 rfl ?_
          refine g_iald X (af_ia1 aff_59) dX11_earn_65 h (fun h => ?_)
          exact g_iret X hQ dX11_earn_66 h
        · refine g_bipush (v := (-104)) X dX11_earn_41 (by decide) ?_
          exact g_iret X hQ dX11_earn_43 h
      · refine g_bipush (v := (-102)) X dX11_earn_22 (by decide) ?_
        exact g_iret X hQ dX11_earn_24 h
  · refine g_bipush (v := (-101)) X dX11_earn_8 (by decide) ?_
    exact g_iret X hQ dX11_earn_10 h
theorem cw_X11_owe : CW yX11_owe cX11_owe 4 (some .int) 2 := ⟨m285, m10, Nat.le_of_ble_eq_true rfl, by decide +kernel⟩
def wp_X11_owe (Post : Int32 → Mem → Prop) (M : Mem) (v1 : Int32) (v2 : Int32) : Prop :=
 wp_X11_isNoDebt (fun r1 M2 =>
  (r1 = 0 →
   (v2 < 1 →
    Post (-102) M2) ∧
   (¬ v2 < 1 →
    (v2 ≤ 9 →
     vp_in v1 4 ∧
     ∀ x3_3 : Int32, x3_3 = rd M2 63 v1.toNatClampNeg →
     vp_in v1 4 ∧
     ∀ M4 : Mem, M4 = wr M2 63 v1.toNatClampNeg v2 →
     vp_in v1 4 ∧
     ∀ M5 : Mem, M5 = wr M4 64 v1.toNatClampNeg (vp_nar .boolean 0) →
     Post x3_3 M5) ∧
    (¬ v2 ≤ 9 →
     Post (-102) M2))) ∧
  (¬ r1 = 0 →
   Post (-101) M2)) M v1
theorem w_X11_owe (E : Ek) (l : Launch) {v1 : Int32} {v2 : Int32} {M : Mem} {Post : Int32 → Mem → Prop} (h : wp_X11_owe Post M v1 v2) : ctI E l yX11_owe cX11_owe 4 (some .int) 2 [.ref (ad E 0), .int v1, .int v2] M Post := by
  refine ct_of (by decide) (Nat.le_of_ble_eq_true rfl) (fun x X hQ => ?_)
  change G E x M 0 [(0, .ref (ad E 0)), (1, .int v1), (2, .int v2)] []
  refine g_aload_n X dX11_owe_0 rfl 0 rfl ?_
  refine g_iload_n X dX11_owe_1 rfl 1 rfl ?_
  refine cl_X11_148 X (by decide) (Nat.le_of_ble_eq_true rfl) dX11_owe_2 h (fun r1 M2 h => ?_)
  refine g_ifeq (tgt := 11) X dX11_owe_5 (by decide) h (fun h => ?_) (fun h => ?_)
  · refine g_iload_n X dX11_owe_11 rfl 2 rfl ?_
    refine g_iconst (v := 1) X dX11_owe_12 (by decide) ?_
    refine g_icmplt (tgt := 22) X dX11_owe_13 (by decide) h (fun h => ?_) (fun h => ?_)
    · refine g_bipush (v := (-102)) X dX11_owe_22 (by decide) ?_
      exact g_iret X hQ dX11_owe_24 h
    · refine g_iload_n X dX11_owe_16 rfl 2 rfl ?_
      refine g_bipush (v := 9) X dX11_owe_17 (by decide) ?_
      refine g_icmple (tgt := 25) X dX11_owe_19 (by decide) h (fun h => ?_) (fun h => ?_)
      · refine g_aload_n X dX11_owe_25 rfl 0 rfl ?_
        refine fg_X11_28 X dX11_owe_26 ?_
        refine fg_X11_160 X aff_59 dX11_owe_29 ?_
        refine g_iload_n X dX11_owe_32 rfl 1 rfl ?_
        refine g_iald X (af_ia4 aff_59) dX11_owe_33 h (fun h => ?_)
        refine g_nm h (fun x3_3 h => ?_)
        refine g_istore_n (lv' := [(0, .ref (ad E 0)), (1, .int v1), (2, .int v2), (3, .int x3_3)]) X dX11_owe_34 rfl (Nat.le_of_ble_eq_true rfl) rfl rfl ?_
        refine g_aload_n X dX11_owe_35 rfl 0 rfl ?_
        refine fg_X11_28 X dX11_owe_36 ?_
        refine fg_X11_160 X aff_59 dX11_owe_39 ?_
        refine g_iload_n X dX11_owe_42 rfl 1 rfl ?_
        refine g_iload_n X dX11_owe_43 rfl 2 rfl ?_
        refine g_iast X (af_ia4 aff_59) dX11_owe_44 h (fun M4 h => ?_)
        refine g_aload_n X dX11_owe_45 rfl 0 rfl ?_
        refine fg_X11_28 X dX11_owe_46 ?_
        refine fg_X11_166 X aff_59 dX11_owe_49 ?_
        refine g_iload_n X dX11_owe_52 rfl 1 rfl ?_
        refine g_iconst (v := 0) X dX11_owe_53 (by decide) ?_
        refine g_zast X (af_za5 aff_59) dX11_owe_54 h (fun M5 h => ?_)
        refine g_iload_n X dX11_owe_55 rfl 3 rfl ?_
        exact g_iret X hQ dX11_owe_56 h
      · refine g_bipush (v := (-102)) X dX11_owe_22 (by decide) ?_
        exact g_iret X hQ dX11_owe_24 h
  · refine g_bipush (v := (-101)) X dX11_owe_8 (by decide) ?_
    exact g_iret X hQ dX11_owe_10 h
theorem cw_X11_isNoRoom : CW yX11_isNoRoom cX11_isNoRoom 2 (some .boolean) 1 := ⟨m287, m10, Nat.le_of_ble_eq_true rfl, by decide +kernel⟩
def wp_X11_isNoRoom (Post : Int32 → Mem → Prop) (M : Mem) (v1 : Int32) : Prop :=
 (v1 < 0 →
  Post 1 M) ∧
 (¬ v1 < 0 →
  (v1 < (rd M 3 0) →
   Post 0 M) ∧
  (¬ v1 < (rd M 3 0) →
   Post 1 M))
theorem w_X11_isNoRoom (E : Ek) (l : Launch) {v1 : Int32} {M : Mem} {Post : Int32 → Mem → Prop} (h : wp_X11_isNoRoom Post M v1) : ctI E l yX11_isNoRoom cX11_isNoRoom 2 (some .boolean) 1 [.ref (ad E 0), .int v1] M Post := by
  refine ct_of (by decide) (Nat.le_of_ble_eq_true rfl) (fun x X hQ => ?_)
  change G E x M 0 [(0, .ref (ad E 0)), (1, .int v1)] []
  refine g_iload_n X dX11_isNoRoom_0 rfl 1 rfl ?_
  refine g_iflt (tgt := 15) X dX11_isNoRoom_1 (by decide) h (fun h => ?_) (fun h => ?_)
  · refine g_iconst (v := 1) X dX11_isNoRoom_15 (by decide) ?_
    refine g_goto (tgt := 20) X dX11_isNoRoom_16 (by decide) ?_
    exact g_zret X hQ dX11_isNoRoom_20 ⟨Or.inr rfl, h⟩
  · refine g_iload_n X dX11_isNoRoom_4 rfl 1 rfl ?_
    refine g_aload_n X dX11_isNoRoom_5 rfl 0 rfl ?_
    refine fg_X11_19 X dX11_isNoRoom_6 ?_
    refine fg_X11_255 X dX11_isNoRoom_9 ?_
    refine g_icmplt (tgt := 19) X dX11_isNoRoom_12 (by decide) h (fun h => ?_) (fun h => ?_)
    · refine g_iconst (v := 0) X dX11_isNoRoom_19 (by decide) ?_
      exact g_zret X hQ dX11_isNoRoom_20 ⟨Or.inl rfl, h⟩
    · refine g_iconst (v := 1) X dX11_isNoRoom_15 (by decide) ?_
      refine g_goto (tgt := 20) X dX11_isNoRoom_16 (by decide) ?_
      exact g_zret X hQ dX11_isNoRoom_20 ⟨Or.inr rfl, h⟩
theorem cl_X11_190 {E : Ek} {x : MC} {cc : ByteArray} {nL hm pc : Nat} {M : Mem} {lv : List (Nat × Value)} {st : List Value} (X : Cx E x cc nL RX11 hm) {v1 : Int32} {Post : Int32 → Mem → Prop} (hr : 1 < hm) (hW : (st.map fun v => v.category).sum ≤ 8) (hd : decode cc pc = .ok (.invokevirtual 190, 3)) (h : wp_X11_isNoRoom Post M v1) (kk : ∀ r M1, Post r M1 → G E x M1 (pc + 3) lv (.int r :: st)) : G E x M pc lv (.int v1 :: .ref (ad E 0) :: st) := k_I (fun hP hS hL => run_V X (w_X11_isNoRoom E (xl x)  h) cw_X11_isNoRoom m313 m314 m315 (⟨by decide, fun E f h => ⟨_, _, _, rfl, rfl, rfl⟩⟩ : OC 0 RX11) hr rfl hd hW hP hS hL) kk
theorem cw_X10_shorten : CW yX10_shorten cX10_shorten 3 none 2 := ⟨m289, m290, Nat.le_of_ble_eq_true rfl, by decide +kernel⟩
def wp_X10_shorten_b37 (Post : Mem → Prop) (v1 : Int32) (v2 : Int32) (M : Mem) : Prop :=
 vp_in v1 6 ∧
 vp_in v2 6 ∧
 ∀ M1 : Mem, M1 = wr M 16 v2.toNatClampNeg ((rd M 16 v1.toNatClampNeg) + 1) →
 Post M1
def wp_X10_shorten (Post : Mem → Prop) (M : Mem) (v1 : Int32) (v2 : Int32) : Prop :=
 vp_in v1 6 ∧
 ((rd M 16 v1.toNatClampNeg) = (-1) →
  Post M) ∧
 (¬ (rd M 16 v1.toNatClampNeg) = (-1) →
  vp_in v2 6 ∧
  ((rd M 16 v2.toNatClampNeg) = (-1) →
   wp_X10_shorten_b37 Post v1 v2 M) ∧
  (¬ (rd M 16 v2.toNatClampNeg) = (-1) →
   vp_in v2 6 ∧
   vp_in v1 6 ∧
   ((rd M 16 v2.toNatClampNeg) ≤ ((rd M 16 v1.toNatClampNeg) + 1) →
    Post M) ∧
   (¬ (rd M 16 v2.toNatClampNeg) ≤ ((rd M 16 v1.toNatClampNeg) + 1) →
    wp_X10_shorten_b37 Post v1 v2 M)))
theorem k_X10_shorten_b37 {E : Ek} {x : MC} (X : Cx E x cX10_shorten 3 RX10 1) {Post : Mem → Prop} (hQ : QV E x Post none) {v1 : Int32} {v2 : Int32} {M : Mem} (h : wp_X10_shorten_b37 Post v1 v2 M ) : G E x M 37 [(0, .ref (ad E 15)), (1, .int v1), (2, .int v2)] [] := by
  refine g_aload_n X dX10_shorten_37 rfl 0 rfl ?_
  refine fg_X10_9 X dX10_shorten_38 ?_
  refine g_iload_n X dX10_shorten_41 rfl 2 rfl ?_
  refine g_aload_n X dX10_shorten_42 rfl 0 rfl ?_
  refine fg_X10_9 X dX10_shorten_43 ?_
  refine g_iload_n X dX10_shorten_46 rfl 1 rfl ?_
  refine g_iald X ia_16 dX10_shorten_47 h (fun h => ?_)
  refine g_iconst (v := 1) X dX10_shorten_48 (by decide) ?_
  refine g_iadd X dX10_shorten_49 ?_
  refine g_iast X ia_16 dX10_shorten_50 h (fun M1 h => ?_)
  exact g_vret X hQ dX10_shorten_51 h
theorem w_X10_shorten (E : Ek) (l : Launch) {v1 : Int32} {v2 : Int32} {M : Mem} {Post : Mem → Prop} (h : wp_X10_shorten Post M v1 v2) : ctV E l yX10_shorten cX10_shorten 3 none 1 [.ref (ad E 15), .int v1, .int v2] M Post := by
  refine ct_of (by decide) (Nat.le_of_ble_eq_true rfl) (fun x X hQ => ?_)
  change G E x M 0 [(0, .ref (ad E 15)), (1, .int v1), (2, .int v2)] []
  refine g_aload_n X dX10_shorten_0 rfl 0 rfl ?_
  refine fg_X10_9 X dX10_shorten_1 ?_
  refine g_iload_n X dX10_shorten_4 rfl 1 rfl ?_
  refine g_iald X ia_16 dX10_shorten_5 h (fun h => ?_)
  refine g_iconst (v := (-1)) X dX10_shorten_6 (by decide) ?_
  refine g_icmpeq (tgt := 51) X dX10_shorten_7 (by decide) h (fun h => ?_) (fun h => ?_)
  · exact g_vret X hQ dX10_shorten_51 h
  · refine g_aload_n X dX10_shorten_10 rfl 0 rfl ?_
    refine fg_X10_9 X dX10_shorten_11 ?_
    refine g_iload_n X dX10_shorten_14 rfl 2 rfl ?_
    refine g_iald X ia_16 dX10_shorten_15 h (fun h => ?_)
    refine g_iconst (v := (-1)) X dX10_shorten_16 (by decide) ?_
    refine g_icmpeq (tgt := 37) X dX10_shorten_17 (by decide) h (fun h => ?_) (fun h => ?_)
    · exact (k_X10_shorten_b37 X hQ  h)
    · refine g_aload_n X dX10_shorten_20 rfl 0 rfl ?_
      refine fg_X10_9 X dX10_shorten_21 ?_
      refine g_iload_n X dX10_shorten_24 rfl 2 rfl ?_
      refine g_iald X ia_16 dX10_shorten_25 h (fun h => ?_)
      refine g_aload_n X dX10_shorten_26 rfl 0 rfl ?_
      refine fg_X10_9 X dX10_shorten_27 ?_
      refine g_iload_n X dX10_shorten_30 rfl 1 rfl ?_
      refine g_iald X ia_16 dX10_shorten_31 h (fun h => ?_)
      refine g_iconst (v := 1) X dX10_shorten_32 (by decide) ?_
      refine g_iadd X dX10_shorten_33 ?_
      refine g_icmple (tgt := 51) X dX10_shorten_34 (by decide) h (fun h => ?_) (fun h => ?_)
      · exact g_vret X hQ dX10_shorten_51 h
      · exact (k_X10_shorten_b37 X hQ  h)
theorem cl_X10_61 {E : Ek} {x : MC} {cc : ByteArray} {nL hm pc : Nat} {M : Mem} {lv : List (Nat × Value)} {st : List Value} (X : Cx E x cc nL RX10 hm) {v1 : Int32} {v2 : Int32} {Post : Mem → Prop} (hr : 1 < hm) (hW : (st.map fun v => v.category).sum ≤ 8) (hd : decode cc pc = .ok (.invokevirtual 61, 3)) (h : wp_X10_shorten Post M v1 v2) (kk : ∀ M1, Post M1 → G E x M1 (pc + 3) lv st) : G E x M pc lv (.int v2 :: .int v1 :: .ref (ad E 15) :: st) := k_V (fun hP hS hL => run_V X (w_X10_shorten E (xl x)  h) cw_X10_shorten m297 m298 m299 (⟨by decide, fun E f h => ⟨_, _, _, rfl, rfl, rfl⟩⟩ : OC 15 RX10) hr rfl hd hW hP hS hL) kk
theorem cw_X10_measure : CW yX10_measure cX10_measure 6 none 3 := ⟨m300, m290, Nat.le_of_ble_eq_true rfl, by decide +kernel⟩
def wp_X10_measure_b49 (Post : Mem → Prop) (o1 : Nat) (v2 : Int32) (v3 : Int32) (P3 : Mem → Int32 → Prop) (P34 : Mem → Int32 → Prop) (P49 : Mem → Int32 → Int32 → Prop) (M : Mem) (v4 : Int32) (v5 : Int32) : Prop :=
 ((rd M 3 1) ≤ v5 →
  ∀ x4_4 : Int32, x4_4 = v4 + 1 →
  P34 M x4_4) ∧
 (¬ (rd M 3 1) ≤ v5 →
  wp_X0_mayPass (fun r5 M6 =>
   (r5 = 0 →
    ∀ x5_7 : Int32, x5_7 = v5 + 1 →
    P49 M6 v4 x5_7) ∧
   (¬ r5 = 0 →
    vp_in v5 6 ∧
    vp_in v5 6 ∧
    wp_X10_shorten (fun M9 =>
     vp_in v5 6 ∧
     vp_in v5 6 ∧
     wp_X10_shorten (fun M11 =>
      ∀ x5_12 : Int32, x5_12 = v5 + 1 →
      P49 M11 v4 x5_12) M9 (rd M9 5 v5.toNatClampNeg) (rd M9 4 v5.toNatClampNeg)) M6 (rd M6 4 v5.toNatClampNeg) (rd M6 5 v5.toNatClampNeg))) M o1 v2 v5)
def wp_X10_measure_b34 (Post : Mem → Prop) (o1 : Nat) (v2 : Int32) (v3 : Int32) (P3 : Mem → Int32 → Prop) (P34 : Mem → Int32 → Prop) (P49 : Mem → Int32 → Int32 → Prop) (M : Mem) (v4 : Int32) : Prop :=
 ((rd M 3 0) ≤ v4 →
  Post M) ∧
 (¬ (rd M 3 0) ≤ v4 →
  P49 M v4 0)
def wp_X10_measure_b3 (Post : Mem → Prop) (o1 : Nat) (v2 : Int32) (v3 : Int32) (P3 : Mem → Int32 → Prop) (P34 : Mem → Int32 → Prop) (P49 : Mem → Int32 → Int32 → Prop) (M : Mem) (v4 : Int32) : Prop :=
 (6 ≤ v4 →
  vp_in v3 6 ∧
  ∀ M1 : Mem, M1 = wr M 16 v3.toNatClampNeg 0 →
  P34 M1 1) ∧
 (¬ 6 ≤ v4 →
  vp_in v4 6 ∧
  ∀ M2 : Mem, M2 = wr M 16 v4.toNatClampNeg (-1) →
  ∀ x4_3 : Int32, x4_3 = v4 + 1 →
  P3 M2 x4_3)
def wp_X10_measure (Post : Mem → Prop) (M : Mem) (o1 : Nat) (v2 : Int32) (v3 : Int32) : Prop :=
 ∀ (P3 : Mem → Int32 → Prop) (P34 : Mem → Int32 → Prop) (P49 : Mem → Int32 → Int32 → Prop) ,
  (∀ (M : Mem) (v4 : Int32), wp_X10_measure_b3 Post o1 v2 v3 P3 P34 P49 M v4 → P3 M v4) →
  (∀ (M : Mem) (v4 : Int32), wp_X10_measure_b34 Post o1 v2 v3 P3 P34 P49 M v4 → P34 M v4) →
  (∀ (M : Mem) (v4 : Int32) (v5 : Int32), wp_X10_measure_b49 Post o1 v2 v3 P3 P34 P49 M v4 v5 → P49 M v4 v5) →
 P3 M 0
theorem k_X10_measure_b49 {E : Ek} {x : MC} (X : Cx E x cX10_measure 6 RX10 3) {Post : Mem → Prop} (hQ : QV E x Post none) {o1 : Nat} {v2 : Int32} {v3 : Int32} (ho1 : Aff o1) {M : Mem} {v4 : Int32} {v5 : Int32} (h : wp_X10_measure_b49 Post o1 v2 v3 (fun M v4 => G E x M 3 [(0, .ref (ad E 15)), (1, .ref (ad E o1)), (2, .int v2), (3, .int v3), (4, .int v4)] []) (fun M v4 => G E x M 34 [(0, .ref (ad E 15)), (1, .ref (ad E o1)), (2, .int v2), (4, .int v4)] []) (fun M v4 v5 => G E x M 49 [(0, .ref (ad E 15)), (1, .ref (ad E o1)), (2, .int v2), (4, .int v4), (5, .int v5)] []) M v4 v5) : G E x M 49 [(0, .ref (ad E 15)), (1, .ref (ad E o1)), (2, .int v2), (4, .int v4), (5, .int v5)] [] := by
  refine g_iload X dX10_measure_49 4 rfl ?_
  refine g_aload_n X dX10_measure_51 rfl 0 rfl ?_
  refine fg_X10_21 X dX10_measure_52 ?_
  refine fg_X10_48 X dX10_measure_55 ?_
  refine g_icmpge (tgt := 125) X dX10_measure_58 (by decide) h (fun h => ?_) (fun h => ?_)
  · refine g_iinc (w := 1) X dX10_measure_125 3 rfl (by decide) (Nat.le_of_ble_eq_true rfl) rfl (fun x4_4 => [(0, .ref (ad E 15)), (1, .ref (ad E o1)), (2, .int v2), (4, .int x4_4), (5, .int v5)]) (fun _ => rfl) h (fun x4_4 h => ?_)
    refine g_goto (tgt := 34) X dX10_measure_128 (by decide) ?_
    exact g_sub [0, 1, 2, 3] rfl h
  · refine g_aload_n X dX10_measure_61 rfl 1 rfl ?_
    refine g_iload_n X dX10_measure_62 rfl 2 rfl ?_
    refine g_iload X dX10_measure_63 4 rfl ?_
    refine cl_X10_51 X ho1 (by decide) (Nat.le_of_ble_eq_true rfl) dX10_measure_65 h (fun r5 M6 h => ?_)
    refine g_ifeq (tgt := 119) X dX10_measure_68 (by decide) h (fun h => ?_) (fun h => ?_)
    · refine g_iinc (w := 1) X dX10_measure_119 4 rfl (by decide) (Nat.le_of_ble_eq_true rfl) rfl (fun x5_7 => [(0, .ref (ad E 15)), (1, .ref (ad E o1)), (2, .int v2), (4, .int v4), (5, .int x5_7)]) (fun _ => rfl) h (fun x5_7 h => ?_)
      refine g_goto (tgt := 49) X dX10_measure_122 (by decide) ?_
      exact h
    · refine g_aload_n X dX10_measure_71 rfl 0 rfl ?_
      refine g_aload_n X dX10_measure_72 rfl 0 rfl ?_
      refine fg_X10_21 X dX10_measure_73 ?_
      refine fg_X10_55 X dX10_measure_76 ?_
      refine g_iload X dX10_measure_79 4 rfl ?_
      refine g_iald X ia_4 dX10_measure_81 h (fun h => ?_)
      refine g_aload_n X dX10_measure_82 rfl 0 rfl ?_
      refine fg_X10_21 X dX10_measure_83 ?_
      refine fg_X10_58 X dX10_measure_86 ?_
      refine g_iload X dX10_measure_89 4 rfl ?_
      refine g_iald X ia_5 dX10_measure_91 h (fun h => ?_)
      refine cl_X10_61 X (by decide) (Nat.le_of_ble_eq_true rfl) dX10_measure_92 h (fun M9 h => ?_)
      refine g_aload_n X dX10_measure_95 rfl 0 rfl ?_
      refine g_aload_n X dX10_measure_96 rfl 0 rfl ?_
      refine fg_X10_21 X dX10_measure_97 ?_
      refine fg_X10_58 X dX10_measure_100 ?_
      refine g_iload X dX10_measure_103 4 rfl ?_
      refine g_iald X ia_5 dX10_measure_105 h (fun h => ?_)
      refine g_aload_n X dX10_measure_106 rfl 0 rfl ?_
      refine fg_X10_21 X dX10_measure_107 ?_
      refine fg_X10_55 X dX10_measure_110 ?_
      refine g_iload X dX10_measure_113 4 rfl ?_
      refine g_iald X ia_4 dX10_measure_115 h (fun h => ?_)
      refine cl_X10_61 X (by decide) (Nat.le_of_ble_eq_true rfl) dX10_measure_116 h (fun M11 h => ?_)
      refine g_iinc (w := 1) X dX10_measure_119 4 rfl (by decide) (Nat.le_of_ble_eq_true rfl) rfl (fun x5_12 => [(0, .ref (ad E 15)), (1, .ref (ad E o1)), (2, .int v2), (4, .int v4), (5, .int x5_12)]) (fun _ => rfl) h (fun x5_12 h => ?_)
      refine g_goto (tgt := 49) X dX10_measure_122 (by decide) ?_
      exact h
theorem k_X10_measure_b34 {E : Ek} {x : MC} (X : Cx E x cX10_measure 6 RX10 3) {Post : Mem → Prop} (hQ : QV E x Post none) {o1 : Nat} {v2 : Int32} {v3 : Int32} (ho1 : Aff o1) {M : Mem} {v4 : Int32} (h : wp_X10_measure_b34 Post o1 v2 v3 (fun M v4 => G E x M 3 [(0, .ref (ad E 15)), (1, .ref (ad E o1)), (2, .int v2), (3, .int v3), (4, .int v4)] []) (fun M v4 => G E x M 34 [(0, .ref (ad E 15)), (1, .ref (ad E o1)), (2, .int v2), (4, .int v4)] []) (fun M v4 v5 => G E x M 49 [(0, .ref (ad E 15)), (1, .ref (ad E o1)), (2, .int v2), (4, .int v4), (5, .int v5)] []) M v4) : G E x M 34 [(0, .ref (ad E 15)), (1, .ref (ad E o1)), (2, .int v2), (4, .int v4)] [] := by
  refine g_iload X dX10_measure_34 3 rfl ?_
  refine g_aload_n X dX10_measure_36 rfl 0 rfl ?_
  refine fg_X10_21 X dX10_measure_37 ?_
  refine fg_X10_44 X dX10_measure_40 ?_
  refine g_icmpge (tgt := 131) X dX10_measure_43 (by decide) h (fun h => ?_) (fun h => ?_)
  · exact g_vret X hQ dX10_measure_131 h
  · refine g_iconst (v := 0) X dX10_measure_46 (by decide) ?_
    refine g_istore (lv' := [(0, .ref (ad E 15)), (1, .ref (ad E o1)), (2, .int v2), (4, .int v4), (5, .int 0)]) X dX10_measure_47 (Nat.le_of_ble_eq_true rfl) rfl rfl ?_
    exact h
theorem k_X10_measure_b3 {E : Ek} {x : MC} (X : Cx E x cX10_measure 6 RX10 3) {Post : Mem → Prop} (hQ : QV E x Post none) {o1 : Nat} {v2 : Int32} {v3 : Int32} (ho1 : Aff o1) {M : Mem} {v4 : Int32} (h : wp_X10_measure_b3 Post o1 v2 v3 (fun M v4 => G E x M 3 [(0, .ref (ad E 15)), (1, .ref (ad E o1)), (2, .int v2), (3, .int v3), (4, .int v4)] []) (fun M v4 => G E x M 34 [(0, .ref (ad E 15)), (1, .ref (ad E o1)), (2, .int v2), (4, .int v4)] []) (fun M v4 v5 => G E x M 49 [(0, .ref (ad E 15)), (1, .ref (ad E o1)), (2, .int v2), (4, .int v4), (5, .int v5)] []) M v4) : G E x M 3 [(0, .ref (ad E 15)), (1, .ref (ad E o1)), (2, .int v2), (3, .int v3), (4, .int v4)] [] := by
  refine g_iload X dX10_measure_3 4 rfl ?_
  refine g_bipush (v := 6) X dX10_measure_5 (by decide) ?_
  refine g_icmpge (tgt := 24) X dX10_measure_7 (by decide) h (fun h => ?_) (fun h => ?_)
  · refine g_aload_n X dX10_measure_24 rfl 0 rfl ?_
    refine fg_X10_9 X dX10_measure_25 ?_
    refine g_iload_n X dX10_measure_28 rfl 3 rfl ?_
    refine g_iconst (v := 0) X dX10_measure_29 (by decide) ?_
    refine g_iast X ia_16 dX10_measure_30 h (fun M1 h => ?_)
    refine g_iconst (v := 1) X dX10_measure_31 (by decide) ?_
    refine g_istore (lv' := [(0, .ref (ad E 15)), (1, .ref (ad E o1)), (2, .int v2), (3, .int v3), (4, .int 1)]) X dX10_measure_32 (Nat.le_of_ble_eq_true rfl) rfl rfl ?_
    exact g_sub [0, 1, 2, 4] rfl h
  · refine g_aload_n X dX10_measure_10 rfl 0 rfl ?_
    refine fg_X10_9 X dX10_measure_11 ?_
    refine g_iload X dX10_measure_14 4 rfl ?_
    refine g_iconst (v := (-1)) X dX10_measure_16 (by decide) ?_
    refine g_iast X ia_16 dX10_measure_17 h (fun M2 h => ?_)
    refine g_iinc (w := 1) X dX10_measure_18 4 rfl (by decide) (Nat.le_of_ble_eq_true rfl) rfl (fun x4_3 => [(0, .ref (ad E 15)), (1, .ref (ad E o1)), (2, .int v2), (3, .int v3), (4, .int x4_3)]) (fun _ => rfl) h (fun x4_3 h => ?_)
    refine g_goto (tgt := 3) X dX10_measure_21 (by decide) ?_
    exact h
theorem w_X10_measure (E : Ek) (l : Launch) {o1 : Nat} {v2 : Int32} {v3 : Int32} (ho1 : Aff o1) {M : Mem} {Post : Mem → Prop} (h : wp_X10_measure Post M o1 v2 v3) : ctV E l yX10_measure cX10_measure 6 none 3 [.ref (ad E 15), .ref (ad E o1), .int v2, .int v3] M Post := by
  refine ct_of (by decide) (Nat.le_of_ble_eq_true rfl) (fun x X hQ => ?_)
  have h := h (fun M v4 => G E x M 3 [(0, .ref (ad E 15)), (1, .ref (ad E o1)), (2, .int v2), (3, .int v3), (4, .int v4)] []) (fun M v4 => G E x M 34 [(0, .ref (ad E 15)), (1, .ref (ad E o1)), (2, .int v2), (4, .int v4)] []) (fun M v4 v5 => G E x M 49 [(0, .ref (ad E 15)), (1, .ref (ad E o1)), (2, .int v2), (4, .int v4), (5, .int v5)] []) (fun M v4 h => k_X10_measure_b3 X hQ ho1 h) (fun M v4 h => k_X10_measure_b34 X hQ ho1 h) (fun M v4 v5 h => k_X10_measure_b49 X hQ ho1 h)
  change G E x M 0 [(0, .ref (ad E 15)), (1, .ref (ad E o1)), (2, .int v2), (3, .int v3)] []
  refine g_iconst (v := 0) X dX10_measure_0 (by decide) ?_
  refine g_istore (lv' := [(0, .ref (ad E 15)), (1, .ref (ad E o1)), (2, .int v2), (3, .int v3), (4, .int 0)]) X dX10_measure_1 (Nat.le_of_ble_eq_true rfl) rfl rfl ?_
  exact h
theorem cl_X10_25 {E : Ek} {x : MC} {cc : ByteArray} {nL hm pc : Nat} {M : Mem} {lv : List (Nat × Value)} {st : List Value} (X : Cx E x cc nL RX10 hm) {o1 : Nat} {v2 : Int32} {v3 : Int32} (ho1 : Aff o1) {Post : Mem → Prop} (hr : 3 < hm) (hW : (st.map fun v => v.category).sum ≤ 8) (hd : decode cc pc = .ok (.invokevirtual 25, 3)) (h : wp_X10_measure Post M o1 v2 v3) (kk : ∀ M1, Post M1 → G E x M1 (pc + 3) lv st) : G E x M pc lv (.int v3 :: .int v2 :: .ref (ad E o1) :: .ref (ad E 15) :: st) := k_V (fun hP hS hL => run_V X (w_X10_measure E (xl x) ho1 h) cw_X10_measure m301 m302 m303 (⟨by decide, fun E f h => ⟨_, _, _, rfl, rfl, rfl⟩⟩ : OC 15 RX10) hr rfl hd hW hP hS hL) kk
theorem cw_X10_wayLength : CW yX10_wayLength cX10_wayLength 4 (some .int) 3 := ⟨m305, m290, Nat.le_of_ble_eq_true rfl, by decide +kernel⟩
def wp_X10_wayLength (Post : Int32 → Mem → Prop) (M : Mem) (o1 : Nat) (v2 : Int32) (v3 : Int32) : Prop :=
 wp_X10_measure (fun M2 =>
  vp_in v2 4 ∧
  vp_in (rd M2 (o1 + 2) v2.toNatClampNeg) 6 ∧
  Post (rd M2 16 (rd M2 (o1 + 2) v2.toNatClampNeg).toNatClampNeg) M2) M o1 v2 v3
theorem w_X10_wayLength (E : Ek) (l : Launch) {o1 : Nat} {v2 : Int32} {v3 : Int32} (ho1 : Aff o1) {M : Mem} {Post : Int32 → Mem → Prop} (h : wp_X10_wayLength Post M o1 v2 v3) : ctI E l yX10_wayLength cX10_wayLength 4 (some .int) 4 [.ref (ad E 15), .ref (ad E o1), .int v2, .int v3] M Post := by
  refine ct_of (by decide) (Nat.le_of_ble_eq_true rfl) (fun x X hQ => ?_)
  change G E x M 0 [(0, .ref (ad E 15)), (1, .ref (ad E o1)), (2, .int v2), (3, .int v3)] []
  refine g_aload_n X dX10_wayLength_0 rfl 0 rfl ?_
  refine g_aload_n X dX10_wayLength_1 rfl 1 rfl ?_
  refine g_iload_n X dX10_wayLength_2 rfl 2 rfl ?_
  refine g_iload_n X dX10_wayLength_3 rfl 3 rfl ?_
  refine cl_X10_25 X ho1 (by decide) (Nat.le_of_ble_eq_true rfl) dX10_wayLength_4 h (fun M2 h => ?_)
  refine g_aload_n X dX10_wayLength_7 rfl 0 rfl ?_
  refine fg_X10_9 X dX10_wayLength_8 ?_
  refine g_aload_n X dX10_wayLength_11 rfl 1 rfl ?_
  refine fg_X10_29 X ho1 dX10_wayLength_12 ?_
  refine g_iload_n X dX10_wayLength_15 rfl 2 rfl ?_
  refine g_iald X (af_ia2 ho1) dX10_wayLength_16 h (fun h => ?_)
  refine g_iald X ia_16 dX10_wayLength_17 h (fun h => ?_)
  exact g_iret X hQ dX10_wayLength_18 h
theorem cl_X11_193 {E : Ek} {x : MC} {cc : ByteArray} {nL hm pc : Nat} {M : Mem} {lv : List (Nat × Value)} {st : List Value} (X : Cx E x cc nL RX11 hm) {o1 : Nat} {v2 : Int32} {v3 : Int32} (ho1 : Aff o1) {Post : Int32 → Mem → Prop} (hr : 4 < hm) (hW : (st.map fun v => v.category).sum ≤ 8) (hd : decode cc pc = .ok (.invokevirtual 193, 3)) (h : wp_X10_wayLength Post M o1 v2 v3) (kk : ∀ r M1, Post r M1 → G E x M1 (pc + 3) lv (.int r :: st)) : G E x M pc lv (.int v3 :: .int v2 :: .ref (ad E o1) :: .ref (ad E 15) :: st) := k_I (fun hP hS hL => run_VN X (w_X10_wayLength E (xl x) ho1 h) cw_X10_wayLength m320 m321 m322 (⟨by decide, fun E f h => ⟨_, _, _, rfl, rfl, rfl⟩⟩ : OC 15 RX10) hr rfl hd hW hP hS hL) kk
theorem cw_X10_doorNearer : CW yX10_doorNearer cX10_doorNearer 5 (some .int) 3 := ⟨m308, m290, Nat.le_of_ble_eq_true rfl, by decide +kernel⟩
def wp_X10_doorNearer_b14 (Post : Int32 → Mem → Prop) (o1 : Nat) (v2 : Int32) (v3 : Int32) (P14 : Mem → Int32 → Prop) (M : Mem) (v4 : Int32) : Prop :=
 ((rd M 3 1) ≤ v4 →
  Post (-1) M) ∧
 (¬ (rd M 3 1) ≤ v4 →
  wp_X4_doorEndsAt (fun r1 M2 =>
   (r1 = 0 →
    ∀ x4_3 : Int32, x4_3 = v4 + 1 →
    P14 M2 x4_3) ∧
   (¬ r1 = 0 →
    wp_X0_mayPass (fun r4 M5 =>
     (r4 = 0 →
      ∀ x4_6 : Int32, x4_6 = v4 + 1 →
      P14 M5 x4_6) ∧
     (¬ r4 = 0 →
      wp_X4_roomBeyond (fun r7 M8 =>
       vp_in r7 6 ∧
       vp_in v3 6 ∧
       (¬ (rd M8 16 r7.toNatClampNeg) = ((rd M8 16 v3.toNatClampNeg) - 1) →
        ∀ x4_9 : Int32, x4_9 = v4 + 1 →
        P14 M8 x4_9) ∧
       ((rd M8 16 r7.toNatClampNeg) = ((rd M8 16 v3.toNatClampNeg) - 1) →
        Post v4 M8)) M5 v4 v3)) M2 o1 v2 v4)) M v4 v3)
def wp_X10_doorNearer (Post : Int32 → Mem → Prop) (M : Mem) (o1 : Nat) (v2 : Int32) (v3 : Int32) : Prop :=
 ∀ (P14 : Mem → Int32 → Prop) ,
  (∀ (M : Mem) (v4 : Int32), wp_X10_doorNearer_b14 Post o1 v2 v3 P14 M v4 → P14 M v4) →
 vp_in v3 6 ∧
 (0 < (rd M 16 v3.toNatClampNeg) →
  P14 M 0) ∧
 (¬ 0 < (rd M 16 v3.toNatClampNeg) →
  Post (-1) M)
theorem k_X10_doorNearer_b14 {E : Ek} {x : MC} (X : Cx E x cX10_doorNearer 5 RX10 3) {Post : Int32 → Mem → Prop} (hQ : QI E x Post (some .int)) {o1 : Nat} {v2 : Int32} {v3 : Int32} (ho1 : Aff o1) {M : Mem} {v4 : Int32} (h : wp_X10_doorNearer_b14 Post o1 v2 v3 (fun M v4 => G E x M 14 [(0, .ref (ad E 15)), (1, .ref (ad E o1)), (2, .int v2), (3, .int v3), (4, .int v4)] []) M v4) : G E x M 14 [(0, .ref (ad E 15)), (1, .ref (ad E o1)), (2, .int v2), (3, .int v3), (4, .int v4)] [] := by
  refine g_iload X dX10_doorNearer_14 4 rfl ?_
  refine g_aload_n X dX10_doorNearer_16 rfl 0 rfl ?_
  refine fg_X10_21 X dX10_doorNearer_17 ?_
  refine fg_X10_48 X dX10_doorNearer_20 ?_
  refine g_icmpge (tgt := 84) X dX10_doorNearer_23 (by decide) h (fun h => ?_) (fun h => ?_)
  · refine g_iconst (v := (-1)) X dX10_doorNearer_84 (by decide) ?_
    exact g_iret X hQ dX10_doorNearer_85 h
  · refine g_aload_n X dX10_doorNearer_26 rfl 0 rfl ?_
    refine fg_X10_21 X dX10_doorNearer_27 ?_
    refine g_iload X dX10_doorNearer_30 4 rfl ?_
    refine g_iload_n X dX10_doorNearer_32 rfl 3 rfl ?_
    refine cl_X10_65 X (by decide) (Nat.le_of_ble_eq_true rfl) dX10_doorNearer_33 h (fun r1 M2 h => ?_)
    refine g_ifeq (tgt := 78) X dX10_doorNearer_36 (by decide) h (fun h => ?_) (fun h => ?_)
    · refine g_iinc (w := 1) X dX10_doorNearer_78 4 rfl (by decide) (Nat.le_of_ble_eq_true rfl) rfl (fun x4_3 => [(0, .ref (ad E 15)), (1, .ref (ad E o1)), (2, .int v2), (3, .int v3), (4, .int x4_3)]) (fun _ => rfl) h (fun x4_3 h => ?_)
      refine g_goto (tgt := 14) X dX10_doorNearer_81 (by decide) ?_
      exact h
    · refine g_aload_n X dX10_doorNearer_39 rfl 1 rfl ?_
      refine g_iload_n X dX10_doorNearer_40 rfl 2 rfl ?_
      refine g_iload X dX10_doorNearer_41 4 rfl ?_
      refine cl_X10_51 X ho1 (by decide) (Nat.le_of_ble_eq_true rfl) dX10_doorNearer_43 h (fun r4 M5 h => ?_)
      refine g_ifeq (tgt := 78) X dX10_doorNearer_46 (by decide) h (fun h => ?_) (fun h => ?_)
      · refine g_iinc (w := 1) X dX10_doorNearer_78 4 rfl (by decide) (Nat.le_of_ble_eq_true rfl) rfl (fun x4_6 => [(0, .ref (ad E 15)), (1, .ref (ad E o1)), (2, .int v2), (3, .int v3), (4, .int x4_6)]) (fun _ => rfl) h (fun x4_6 h => ?_)
        refine g_goto (tgt := 14) X dX10_doorNearer_81 (by decide) ?_
        exact h
      · refine g_aload_n X dX10_doorNearer_49 rfl 0 rfl ?_
        refine fg_X10_9 X dX10_doorNearer_50 ?_
        refine g_aload_n X dX10_doorNearer_53 rfl 0 rfl ?_
        refine fg_X10_21 X dX10_doorNearer_54 ?_
        refine g_iload X dX10_doorNearer_57 4 rfl ?_
        refine g_iload_n X dX10_doorNearer_59 rfl 3 rfl ?_
        refine cl_X10_38 X (by decide) (Nat.le_of_ble_eq_true rfl) dX10_doorNearer_60 h (fun r7 M8 h => ?_)
        refine g_iald X ia_16 dX10_doorNearer_63 h (fun h => ?_)
        refine g_aload_n X dX10_doorNearer_64 rfl 0 rfl ?_
        refine fg_X10_9 X dX10_doorNearer_65 ?_
        refine g_iload_n X dX10_doorNearer_68 rfl 3 rfl ?_
        refine g_iald X ia_16 dX10_doorNearer_69 h (fun h => ?_)
        refine g_iconst (v := 1) X dX10_doorNearer_70 (by decide) ?_
        refine g_isub X dX10_doorNearer_71 ?_
        refine g_icmpne (tgt := 78) X dX10_doorNearer_72 (by decide) h (fun h => ?_) (fun h => ?_)
        · refine g_iinc (w := 1) X dX10_doorNearer_78 4 rfl (by decide) (Nat.le_of_ble_eq_true rfl) rfl (fun x4_9 => [(0, .ref (ad E 15)), (1, .ref (ad E o1)), (2, .int v2), (3, .int v3), (4, .int x4_9)]) (fun _ => rfl) h (fun x4_9 h => ?_)
          refine g_goto (tgt := 14) X dX10_doorNearer_81 (by decide) ?_
          exact h
        · refine g_iload X dX10_doorNearer_75 4 rfl ?_
          exact g_iret X hQ dX10_doorNearer_77 h
theorem w_X10_doorNearer (E : Ek) (l : Launch) {o1 : Nat} {v2 : Int32} {v3 : Int32} (ho1 : Aff o1) {M : Mem} {Post : Int32 → Mem → Prop} (h : wp_X10_doorNearer Post M o1 v2 v3) : ctI E l yX10_doorNearer cX10_doorNearer 5 (some .int) 3 [.ref (ad E 15), .ref (ad E o1), .int v2, .int v3] M Post := by
  refine ct_of (by decide) (Nat.le_of_ble_eq_true rfl) (fun x X hQ => ?_)
  have h := h (fun M v4 => G E x M 14 [(0, .ref (ad E 15)), (1, .ref (ad E o1)), (2, .int v2), (3, .int v3), (4, .int v4)] []) (fun M v4 h => k_X10_doorNearer_b14 X hQ ho1 h)
  change G E x M 0 [(0, .ref (ad E 15)), (1, .ref (ad E o1)), (2, .int v2), (3, .int v3)] []
  refine g_aload_n X dX10_doorNearer_0 rfl 0 rfl ?_
  refine fg_X10_9 X dX10_doorNearer_1 ?_
  refine g_iload_n X dX10_doorNearer_4 rfl 3 rfl ?_
  refine g_iald X ia_16 dX10_doorNearer_5 h (fun h => ?_)
  refine g_ifgt (tgt := 11) X dX10_doorNearer_6 (by decide) h (fun h => ?_) (fun h => ?_)
  · refine g_iconst (v := 0) X dX10_doorNearer_11 (by decide) ?_
    refine g_istore (lv' := [(0, .ref (ad E 15)), (1, .ref (ad E o1)), (2, .int v2), (3, .int v3), (4, .int 0)]) X dX10_doorNearer_12 (Nat.le_of_ble_eq_true rfl) rfl rfl ?_
    exact h
  · refine g_iconst (v := (-1)) X dX10_doorNearer_9 (by decide) ?_
    exact g_iret X hQ dX10_doorNearer_10 h
theorem cl_X10_34 {E : Ek} {x : MC} {cc : ByteArray} {nL hm pc : Nat} {M : Mem} {lv : List (Nat × Value)} {st : List Value} (X : Cx E x cc nL RX10 hm) {o1 : Nat} {v2 : Int32} {v3 : Int32} (ho1 : Aff o1) {Post : Int32 → Mem → Prop} (hr : 3 < hm) (hW : (st.map fun v => v.category).sum ≤ 8) (hd : decode cc pc = .ok (.invokevirtual 34, 3)) (h : wp_X10_doorNearer Post M o1 v2 v3) (kk : ∀ r M1, Post r M1 → G E x M1 (pc + 3) lv (.int r :: st)) : G E x M pc lv (.int v3 :: .int v2 :: .ref (ad E o1) :: .ref (ad E 15) :: st) := k_I (fun hP hS hL => run_V X (w_X10_doorNearer E (xl x) ho1 h) cw_X10_doorNearer m309 m310 m311 (⟨by decide, fun E f h => ⟨_, _, _, rfl, rfl, rfl⟩⟩ : OC 15 RX10) hr rfl hd hW hP hS hL) kk
