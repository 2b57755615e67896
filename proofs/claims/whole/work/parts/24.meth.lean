theorem cw_X10_wayDoor : CW yX10_wayDoor cX10_wayDoor 8 (some .int) 4 := ⟨m312, m290, Nat.le_of_ble_eq_true rfl, by decide +kernel⟩
def wp_X10_wayDoor_b21 (Post : Int32 → Mem → Prop) (o1 : Nat) (v2 : Int32) (v3 : Int32) (v4 : Int32) (P21 : Mem → Int32 → Int32 → Int32 → Prop) (M : Mem) (v5 : Int32) (v6 : Int32) (v7 : Int32) : Prop :=
 (v4 < v7 →
  Post v6 M) ∧
 (¬ v4 < v7 →
  wp_X10_doorNearer (fun r4 M5 =>
   (¬ r4 = (-1) →
    wp_X4_roomBeyond (fun r6 M7 =>
     ∀ x7_8 : Int32, x7_8 = v7 + 1 →
     P21 M7 r6 r4 x7_8) M5 r4 v5) ∧
   (r4 = (-1) →
    Post (-1) M5)) M o1 v2 v5)
def wp_X10_wayDoor (Post : Int32 → Mem → Prop) (M : Mem) (o1 : Nat) (v2 : Int32) (v3 : Int32) (v4 : Int32) : Prop :=
 ∀ (P21 : Mem → Int32 → Int32 → Int32 → Prop) ,
  (∀ (M : Mem) (v5 : Int32) (v6 : Int32) (v7 : Int32), wp_X10_wayDoor_b21 Post o1 v2 v3 v4 P21 M v5 v6 v7 → P21 M v5 v6 v7) →
 wp_X10_measure (fun M2 =>
  vp_in v2 4 ∧
  ∀ x5_3 : Int32, x5_3 = rd M2 (o1 + 2) v2.toNatClampNeg →
  P21 M2 x5_3 (-1) 0) M o1 v2 v3
theorem k_X10_wayDoor_b21 {E : Ek} {x : MC} (X : Cx E x cX10_wayDoor 8 RX10 4) {Post : Int32 → Mem → Prop} (hQ : QI E x Post (some .int)) {o1 : Nat} {v2 : Int32} {v3 : Int32} {v4 : Int32} (ho1 : Aff o1) {M : Mem} {v5 : Int32} {v6 : Int32} {v7 : Int32} (h : wp_X10_wayDoor_b21 Post o1 v2 v3 v4 (fun M v5 v6 v7 => G E x M 21 [(0, .ref (ad E 15)), (1, .ref (ad E o1)), (2, .int v2), (4, .int v4), (5, .int v5), (6, .int v6), (7, .int v7)] []) M v5 v6 v7) : G E x M 21 [(0, .ref (ad E 15)), (1, .ref (ad E o1)), (2, .int v2), (4, .int v4), (5, .int v5), (6, .int v6), (7, .int v7)] [] := by
  refine g_iload X dX10_wayDoor_21 6 rfl ?_
  refine g_iload X dX10_wayDoor_23 3 rfl ?_
  refine g_icmpgt (tgt := 65) X dX10_wayDoor_25 (by decide) h (fun h => ?_) (fun h => ?_)
  · refine g_iload X dX10_wayDoor_65 5 rfl ?_
    exact g_iret X hQ dX10_wayDoor_67 h
  · refine g_aload_n X dX10_wayDoor_28 rfl 0 rfl ?_
    refine g_aload_n X dX10_wayDoor_29 rfl 1 rfl ?_
    refine g_iload_n X dX10_wayDoor_30 rfl 2 rfl ?_
    refine g_iload X dX10_wayDoor_31 4 rfl ?_
    refine cl_X10_34 X ho1 (by decide) (Nat.le_of_ble_eq_true rfl) dX10_wayDoor_33 h (fun r4 M5 h => ?_)
    refine g_istore (lv' := [(0, .ref (ad E 15)), (1, .ref (ad E o1)), (2, .int v2), (4, .int v4), (5, .int v5), (6, .int r4), (7, .int v7)]) X dX10_wayDoor_36 (Nat.le_of_ble_eq_true rfl) rfl rfl ?_
    refine g_iload X dX10_wayDoor_38 5 rfl ?_
    refine g_iconst (v := (-1)) X dX10_wayDoor_40 (by decide) ?_
    refine g_icmpne (tgt := 46) X dX10_wayDoor_41 (by decide) h (fun h => ?_) (fun h => ?_)
    · refine g_aload_n X dX10_wayDoor_46 rfl 0 rfl ?_
      refine fg_X10_21 X dX10_wayDoor_47 ?_
      refine g_iload X dX10_wayDoor_50 5 rfl ?_
      refine g_iload X dX10_wayDoor_52 4 rfl ?_
      refine cl_X10_38 X (by decide) (Nat.le_of_ble_eq_true rfl) dX10_wayDoor_54 h (fun r6 M7 h => ?_)
      refine g_istore (lv' := [(0, .ref (ad E 15)), (1, .ref (ad E o1)), (2, .int v2), (4, .int v4), (5, .int r6), (6, .int r4), (7, .int v7)]) X dX10_wayDoor_57 (Nat.le_of_ble_eq_true rfl) rfl rfl ?_
      refine g_iinc (w := 1) X dX10_wayDoor_59 6 rfl (by decide) (Nat.le_of_ble_eq_true rfl) rfl (fun x7_8 => [(0, .ref (ad E 15)), (1, .ref (ad E o1)), (2, .int v2), (4, .int v4), (5, .int r6), (6, .int r4), (7, .int x7_8)]) (fun _ => rfl) h (fun x7_8 h => ?_)
      refine g_goto (tgt := 21) X dX10_wayDoor_62 (by decide) ?_
      exact h
    · refine g_iconst (v := (-1)) X dX10_wayDoor_44 (by decide) ?_
      exact g_iret X hQ dX10_wayDoor_45 h
theorem w_X10_wayDoor (E : Ek) (l : Launch) {o1 : Nat} {v2 : Int32} {v3 : Int32} {v4 : Int32} (ho1 : Aff o1) {M : Mem} {Post : Int32 → Mem → Prop} (h : wp_X10_wayDoor Post M o1 v2 v3 v4) : ctI E l yX10_wayDoor cX10_wayDoor 8 (some .int) 4 [.ref (ad E 15), .ref (ad E o1), .int v2, .int v3, .int v4] M Post := by
  refine ct_of (by decide) (Nat.le_of_ble_eq_true rfl) (fun x X hQ => ?_)
  have h := h (fun M v5 v6 v7 => G E x M 21 [(0, .ref (ad E 15)), (1, .ref (ad E o1)), (2, .int v2), (4, .int v4), (5, .int v5), (6, .int v6), (7, .int v7)] []) (fun M v5 v6 v7 h => k_X10_wayDoor_b21 X hQ ho1 h)
  change G E x M 0 [(0, .ref (ad E 15)), (1, .ref (ad E o1)), (2, .int v2), (3, .int v3), (4, .int v4)] []
  refine g_aload_n X dX10_wayDoor_0 rfl 0 rfl ?_
  refine g_aload_n X dX10_wayDoor_1 rfl 1 rfl ?_
  refine g_iload_n X dX10_wayDoor_2 rfl 2 rfl ?_
  refine g_iload_n X dX10_wayDoor_3 rfl 3 rfl ?_
  refine cl_X10_25 X ho1 (by decide) (Nat.le_of_ble_eq_true rfl) dX10_wayDoor_4 h (fun M2 h => ?_)
  refine g_aload_n X dX10_wayDoor_7 rfl 1 rfl ?_
  refine fg_X10_29 X ho1 dX10_wayDoor_8 ?_
  refine g_iload_n X dX10_wayDoor_11 rfl 2 rfl ?_
  refine g_iald X (af_ia2 ho1) dX10_wayDoor_12 h (fun h => ?_)
  refine g_nm h (fun x5_3 h => ?_)
  refine g_istore (lv' := [(0, .ref (ad E 15)), (1, .ref (ad E o1)), (2, .int v2), (3, .int v3), (4, .int v4), (5, .int x5_3)]) X dX10_wayDoor_13 (Nat.le_of_ble_eq_true rfl) rfl rfl ?_
  refine g_iconst (v := (-1)) X dX10_wayDoor_15 (by decide) ?_
  refine g_istore (lv' := [(0, .ref (ad E 15)), (1, .ref (ad E o1)), (2, .int v2), (3, .int v3), (4, .int v4), (5, .int x5_3), (6, .int (-1))]) X dX10_wayDoor_16 (Nat.le_of_ble_eq_true rfl) rfl rfl ?_
  refine g_iconst (v := 0) X dX10_wayDoor_18 (by decide) ?_
  refine g_istore (lv' := [(0, .ref (ad E 15)), (1, .ref (ad E o1)), (2, .int v2), (3, .int v3), (4, .int v4), (5, .int x5_3), (6, .int (-1)), (7, .int 0)]) X dX10_wayDoor_19 (Nat.le_of_ble_eq_true rfl) rfl rfl ?_
  exact g_sub [0, 1, 2, 4, 5, 6, 7] rfl h
theorem cl_X11_197 {E : Ek} {x : MC} {cc : ByteArray} {nL hm pc : Nat} {M : Mem} {lv : List (Nat × Value)} {st : List Value} (X : Cx E x cc nL RX11 hm) {o1 : Nat} {v2 : Int32} {v3 : Int32} {v4 : Int32} (ho1 : Aff o1) {Post : Int32 → Mem → Prop} (hr : 4 < hm) (hW : (st.map fun v => v.category).sum ≤ 8) (hd : decode cc pc = .ok (.invokevirtual 197, 3)) (h : wp_X10_wayDoor Post M o1 v2 v3 v4) (kk : ∀ r M1, Post r M1 → G E x M1 (pc + 3) lv (.int r :: st)) : G E x M pc lv (.int v4 :: .int v3 :: .int v2 :: .ref (ad E o1) :: .ref (ad E 15) :: st) := k_I (fun hP hS hL => run_VN X (w_X10_wayDoor E (xl x) ho1 h) cw_X10_wayDoor m317 m318 m319 (⟨by decide, fun E f h => ⟨_, _, _, rfl, rfl, rfl⟩⟩ : OC 15 RX10) hr rfl hd hW hP hS hL) kk
theorem cw_X11_way : CW yX11_way cX11_way 4 (some .int) 3 := ⟨m323, m10, Nat.le_of_ble_eq_true rfl, by decide +kernel⟩
def wp_X11_way (Post : Int32 → Mem → Prop) (M : Mem) (v1 : Int32) (v2 : Int32) (v3 : Int32) : Prop :=
 wp_X11_isNobody (fun r1 M2 =>
  (¬ r1 = 0 →
   Post (-101) M2) ∧
  (r1 = 0 →
   wp_X11_isNoRoom (fun r3 M4 =>
    (r3 = 0 →
     (¬ v3 = 0 →
      (v3 < 10 →
       Post (-102) M4) ∧
      (¬ v3 < 10 →
       (v3 ≤ 14 →
        wp_X10_wayDoor (fun r5 M6 =>
         Post r5 M6) M4 59 v1 v2 (v3 - 10)) ∧
       (¬ v3 ≤ 14 →
        Post (-102) M4))) ∧
     (v3 = 0 →
      wp_X10_wayLength (fun r7 M8 =>
       Post r7 M8) M4 59 v1 v2)) ∧
    (¬ r3 = 0 →
     Post (-101) M4)) M2 v2)) M v1
theorem w_X11_way (E : Ek) (l : Launch) {v1 : Int32} {v2 : Int32} {v3 : Int32} {M : Mem} {Post : Int32 → Mem → Prop} (h : wp_X11_way Post M v1 v2 v3) : ctI E l yX11_way cX11_way 4 (some .int) 5 [.ref (ad E 0), .int v1, .int v2, .int v3] M Post := by
  refine ct_of (by decide) (Nat.le_of_ble_eq_true rfl) (fun x X hQ => ?_)
  change G E x M 0 [(0, .ref (ad E 0)), (1, .int v1), (2, .int v2), (3, .int v3)] []
  refine g_aload_n X dX11_way_0 rfl 0 rfl ?_
  refine g_iload_n X dX11_way_1 rfl 1 rfl ?_
  refine cl_X11_93 X (by decide) (Nat.le_of_ble_eq_true rfl) dX11_way_2 h (fun r1 M2 h => ?_)
  refine g_ifne (tgt := 16) X dX11_way_5 (by decide) h (fun h => ?_) (fun h => ?_)
  · refine g_bipush (v := (-101)) X dX11_way_16 (by decide) ?_
    exact g_iret X hQ dX11_way_18 h
  · refine g_aload_n X dX11_way_8 rfl 0 rfl ?_
    refine g_iload_n X dX11_way_9 rfl 2 rfl ?_
    refine cl_X11_190 X (by decide) (Nat.le_of_ble_eq_true rfl) dX11_way_10 h (fun r3 M4 h => ?_)
    refine g_ifeq (tgt := 19) X dX11_way_13 (by decide) h (fun h => ?_) (fun h => ?_)
    · refine g_iload_n X dX11_way_19 rfl 3 rfl ?_
      refine g_ifne (tgt := 37) X dX11_way_20 (by decide) h (fun h => ?_) (fun h => ?_)
      · refine g_iload_n X dX11_way_37 rfl 3 rfl ?_
        refine g_bipush (v := 10) X dX11_way_38 (by decide) ?_
        refine g_icmplt (tgt := 49) X dX11_way_40 (by decide) h (fun h => ?_) (fun h => ?_)
        · refine g_bipush (v := (-102)) X dX11_way_49 (by decide) ?_
          exact g_iret X hQ dX11_way_51 h
        · refine g_iload_n X dX11_way_43 rfl 3 rfl ?_
          refine g_bipush (v := 14) X dX11_way_44 (by decide) ?_
          refine g_icmple (tgt := 52) X dX11_way_46 (by decide) h (fun h => ?_) (fun h => ?_)
          · refine g_aload_n X dX11_way_52 rfl 0 rfl ?_
            refine fg_X11_41 X dX11_way_53 ?_
            refine g_aload_n X dX11_way_56 rfl 0 rfl ?_
            refine fg_X11_28 X dX11_way_57 ?_
            refine g_iload_n X dX11_way_60 rfl 1 rfl ?_
            refine g_iload_n X dX11_way_61 rfl 2 rfl ?_
            refine g_iload_n X dX11_way_62 rfl 3 rfl ?_
            refine g_bipush (v := 10) X dX11_way_63 (by decide) ?_
            refine g_isub X dX11_way_65 ?_
            refine cl_X11_197 X aff_59 (by decide) (Nat.le_of_ble_eq_true rfl) dX11_way_66 h (fun r5 M6 h => ?_)
            exact g_iret X hQ dX11_way_69 h
          · refine g_bipush (v := (-102)) X dX11_way_49 (by decide) ?_
            exact g_iret X hQ dX11_way_51 h
      · refine g_aload_n X dX11_way_23 rfl 0 rfl ?_
        refine fg_X11_41 X dX11_way_24 ?_
        refine g_aload_n X dX11_way_27 rfl 0 rfl ?_
        refine fg_X11_28 X dX11_way_28 ?_
        refine g_iload_n X dX11_way_31 rfl 1 rfl ?_
        refine g_iload_n X dX11_way_32 rfl 2 rfl ?_
        refine cl_X11_193 X aff_59 (by decide) (Nat.le_of_ble_eq_true rfl) dX11_way_33 h (fun r7 M8 h => ?_)
        exact g_iret X hQ dX11_way_36 h
    · refine g_bipush (v := (-101)) X dX11_way_16 (by decide) ?_
      exact g_iret X hQ dX11_way_18 h
theorem cl_X11_301 {E : Ek} {x : MC} {cc : ByteArray} {nL hm pc : Nat} {M : Mem} {lv : List (Nat × Value)} {st : List Value} (X : Cx E x cc nL RX11 hm) {v1 : Int32} {v2 : Int32} {v3 : Int32} {Post : Int32 → Mem → Prop} (hr : 5 < hm) (hW : (st.map fun v => v.category).sum ≤ 8) (hd : decode cc pc = .ok (.invokevirtual 301, 3)) (h : wp_X11_way Post M v1 v2 v3) (kk : ∀ r M1, Post r M1 → G E x M1 (pc + 3) lv (.int r :: st)) : G E x M pc lv (.int v3 :: .int v2 :: .int v1 :: .ref (ad E 0) :: st) := k_I (fun hP hS hL => run_V X (w_X11_way E (xl x)  h) cw_X11_way m470 m471 m472 (⟨by decide, fun E f h => ⟨_, _, _, rfl, rfl, rfl⟩⟩ : OC 0 RX11) hr rfl hd hW hP hS hL) kk
theorem cw_X0_takeOver : CW yX0_takeOver cX0_takeOver 3 none 1 := ⟨m324, m144, Nat.le_of_ble_eq_true rfl, by decide +kernel⟩
def wp_X0_takeOver_b101 (Post : Mem → Prop) (o : Nat) (o1 : Nat) (P2 : Mem → Int32 → Prop) (P39 : Mem → Int32 → Prop) (P64 : Mem → Int32 → Prop) (P101 : Mem → Int32 → Prop) (M : Mem) (v2 : Int32) : Prop :=
 (6 ≤ v2 →
  ∀ M9 : Mem, M9 = wr M o 8 (rd M o1 8) →
  ∀ M10 : Mem, M10 = wr M9 o 9 (rd M9 o1 9) →
  Post M10) ∧
 (¬ 6 ≤ v2 →
  vp_in v2 6 ∧
  vp_in v2 6 ∧
  ∀ M11 : Mem, M11 = wr M (o + 6) v2.toNatClampNeg (rd M (o1 + 6) v2.toNatClampNeg) →
  vp_in v2 6 ∧
  vp_in v2 6 ∧
  ∀ M12 : Mem, M12 = wr M11 (o + 7) v2.toNatClampNeg (vp_nar .boolean (rd M11 (o1 + 7) v2.toNatClampNeg)) →
  ∀ x2_13 : Int32, x2_13 = v2 + 1 →
  P101 M12 x2_13)
def wp_X0_takeOver_b64 (Post : Mem → Prop) (o : Nat) (o1 : Nat) (P2 : Mem → Int32 → Prop) (P39 : Mem → Int32 → Prop) (P64 : Mem → Int32 → Prop) (P101 : Mem → Int32 → Prop) (M : Mem) (v2 : Int32) : Prop :=
 (4 ≤ v2 →
  P101 M 0) ∧
 (¬ 4 ≤ v2 →
  vp_in v2 4 ∧
  vp_in v2 4 ∧
  ∀ M6 : Mem, M6 = wr M (o + 4) v2.toNatClampNeg (rd M (o1 + 4) v2.toNatClampNeg) →
  vp_in v2 4 ∧
  vp_in v2 4 ∧
  ∀ M7 : Mem, M7 = wr M6 (o + 5) v2.toNatClampNeg (vp_nar .boolean (rd M6 (o1 + 5) v2.toNatClampNeg)) →
  ∀ x2_8 : Int32, x2_8 = v2 + 1 →
  P64 M7 x2_8)
def wp_X0_takeOver_b39 (Post : Mem → Prop) (o : Nat) (o1 : Nat) (P2 : Mem → Int32 → Prop) (P39 : Mem → Int32 → Prop) (P64 : Mem → Int32 → Prop) (P101 : Mem → Int32 → Prop) (M : Mem) (v2 : Int32) : Prop :=
 (2 ≤ v2 →
  P64 M 0) ∧
 (¬ 2 ≤ v2 →
  vp_in v2 2 ∧
  vp_in v2 2 ∧
  ∀ M4 : Mem, M4 = wr M (o + 3) v2.toNatClampNeg (rd M (o1 + 3) v2.toNatClampNeg) →
  ∀ x2_5 : Int32, x2_5 = v2 + 1 →
  P39 M4 x2_5)
def wp_X0_takeOver_b2 (Post : Mem → Prop) (o : Nat) (o1 : Nat) (P2 : Mem → Int32 → Prop) (P39 : Mem → Int32 → Prop) (P64 : Mem → Int32 → Prop) (P101 : Mem → Int32 → Prop) (M : Mem) (v2 : Int32) : Prop :=
 (4 ≤ v2 →
  P39 M 0) ∧
 (¬ 4 ≤ v2 →
  vp_in v2 4 ∧
  vp_in v2 4 ∧
  ∀ M1 : Mem, M1 = wr M (o + 1) v2.toNatClampNeg (rd M (o1 + 1) v2.toNatClampNeg) →
  vp_in v2 4 ∧
  vp_in v2 4 ∧
  ∀ M2 : Mem, M2 = wr M1 (o + 2) v2.toNatClampNeg (rd M1 (o1 + 2) v2.toNatClampNeg) →
  ∀ x2_3 : Int32, x2_3 = v2 + 1 →
  P2 M2 x2_3)
def wp_X0_takeOver (Post : Mem → Prop) (M : Mem) (o : Nat) (o1 : Nat) : Prop :=
 ∀ (P2 : Mem → Int32 → Prop) (P39 : Mem → Int32 → Prop) (P64 : Mem → Int32 → Prop) (P101 : Mem → Int32 → Prop) ,
  (∀ (M : Mem) (v2 : Int32), wp_X0_takeOver_b2 Post o o1 P2 P39 P64 P101 M v2 → P2 M v2) →
  (∀ (M : Mem) (v2 : Int32), wp_X0_takeOver_b39 Post o o1 P2 P39 P64 P101 M v2 → P39 M v2) →
  (∀ (M : Mem) (v2 : Int32), wp_X0_takeOver_b64 Post o o1 P2 P39 P64 P101 M v2 → P64 M v2) →
  (∀ (M : Mem) (v2 : Int32), wp_X0_takeOver_b101 Post o o1 P2 P39 P64 P101 M v2 → P101 M v2) →
 P2 M 0
theorem k_X0_takeOver_b101 {E : Ek} {x : MC} (X : Cx E x cX0_takeOver 3 RX0 1) {Post : Mem → Prop} (hQ : QV E x Post none) {o : Nat} {o1 : Nat} (ho : Aff o) (ho1 : Aff o1) {M : Mem} {v2 : Int32} (h : wp_X0_takeOver_b101 Post o o1 (fun M v2 => G E x M 2 [(0, .ref (ad E o)), (1, .ref (ad E o1)), (2, .int v2)] []) (fun M v2 => G E x M 39 [(0, .ref (ad E o)), (1, .ref (ad E o1)), (2, .int v2)] []) (fun M v2 => G E x M 64 [(0, .ref (ad E o)), (1, .ref (ad E o1)), (2, .int v2)] []) (fun M v2 => G E x M 101 [(0, .ref (ad E o)), (1, .ref (ad E o1)), (2, .int v2)] []) M v2) : G E x M 101 [(0, .ref (ad E o)), (1, .ref (ad E o1)), (2, .int v2)] [] := by
  refine g_iload_n X dX0_takeOver_101 rfl 2 rfl ?_
  refine g_bipush (v := 6) X dX0_takeOver_102 (by decide) ?_
  refine g_icmpge (tgt := 137) X dX0_takeOver_104 (by decide) h (fun h => ?_) (fun h => ?_)
  · refine g_aload_n X dX0_takeOver_137 rfl 0 rfl ?_
    refine g_aload_n X dX0_takeOver_138 rfl 1 rfl ?_
    refine fg_X0_38 X ho1 dX0_takeOver_139 ?_
    refine fp_X0_38 X ho dX0_takeOver_142 h (fun M9 h => ?_)
    refine g_aload_n X dX0_takeOver_145 rfl 0 rfl ?_
    refine g_aload_n X dX0_takeOver_146 rfl 1 rfl ?_
    refine fg_X0_42 X ho1 dX0_takeOver_147 ?_
    refine fp_X0_42 X ho dX0_takeOver_150 h (fun M10 h => ?_)
    exact g_vret X hQ dX0_takeOver_153 h
  · refine g_aload_n X dX0_takeOver_107 rfl 0 rfl ?_
    refine fg_X0_28 X ho dX0_takeOver_108 ?_
    refine g_iload_n X dX0_takeOver_111 rfl 2 rfl ?_
    refine g_aload_n X dX0_takeOver_112 rfl 1 rfl ?_
    refine fg_X0_28 X ho1 dX0_takeOver_113 ?_
    refine g_iload_n X dX0_takeOver_116 rfl 2 rfl ?_
    refine g_iald X (af_ia6 ho1) dX0_takeOver_117 h (fun h => ?_)
    refine g_iast X (af_ia6 ho) dX0_takeOver_118 h (fun M11 h => ?_)
    refine g_aload_n X dX0_takeOver_119 rfl 0 rfl ?_
    refine fg_X0_31 X ho dX0_takeOver_120 ?_
    refine g_iload_n X dX0_takeOver_123 rfl 2 rfl ?_
    refine g_aload_n X dX0_takeOver_124 rfl 1 rfl ?_
    refine fg_X0_31 X ho1 dX0_takeOver_125 ?_
    refine g_iload_n X dX0_takeOver_128 rfl 2 rfl ?_
    refine g_zald X (af_za7 ho1) dX0_takeOver_129 h (fun h => ?_)
    refine g_zast X (af_za7 ho) dX0_takeOver_130 h (fun M12 h => ?_)
    refine g_iinc (w := 1) X dX0_takeOver_131 2 rfl (by decide) (Nat.le_of_ble_eq_true rfl) rfl (fun x2_13 => [(0, .ref (ad E o)), (1, .ref (ad E o1)), (2, .int x2_13)]) (fun _ => rfl) h (fun x2_13 h => ?_)
    refine g_goto (tgt := 101) X dX0_takeOver_134 (by decide) ?_
    exact h
theorem k_X0_takeOver_b64 {E : Ek} {x : MC} (X : Cx E x cX0_takeOver 3 RX0 1) {Post : Mem → Prop} (hQ : QV E x Post none) {o : Nat} {o1 : Nat} (ho : Aff o) (ho1 : Aff o1) {M : Mem} {v2 : Int32} (h : wp_X0_takeOver_b64 Post o o1 (fun M v2 => G E x M 2 [(0, .ref (ad E o)), (1, .ref (ad E o1)), (2, .int v2)] []) (fun M v2 => G E x M 39 [(0, .ref (ad E o)), (1, .ref (ad E o1)), (2, .int v2)] []) (fun M v2 => G E x M 64 [(0, .ref (ad E o)), (1, .ref (ad E o1)), (2, .int v2)] []) (fun M v2 => G E x M 101 [(0, .ref (ad E o)), (1, .ref (ad E o1)), (2, .int v2)] []) M v2) : G E x M 64 [(0, .ref (ad E o)), (1, .ref (ad E o1)), (2, .int v2)] [] := by
  refine g_iload_n X dX0_takeOver_64 rfl 2 rfl ?_
  refine g_iconst (v := 4) X dX0_takeOver_65 (by decide) ?_
  refine g_icmpge (tgt := 99) X dX0_takeOver_66 (by decide) h (fun h => ?_) (fun h => ?_)
  · refine g_iconst (v := 0) X dX0_takeOver_99 (by decide) ?_
    refine g_istore_n (lv' := [(0, .ref (ad E o)), (1, .ref (ad E o1)), (2, .int 0)]) X dX0_takeOver_100 rfl (Nat.le_of_ble_eq_true rfl) rfl rfl ?_
    exact h
  · refine g_aload_n X dX0_takeOver_69 rfl 0 rfl ?_
    refine fg_X0_21 X ho dX0_takeOver_70 ?_
    refine g_iload_n X dX0_takeOver_73 rfl 2 rfl ?_
    refine g_aload_n X dX0_takeOver_74 rfl 1 rfl ?_
    refine fg_X0_21 X ho1 dX0_takeOver_75 ?_
    refine g_iload_n X dX0_takeOver_78 rfl 2 rfl ?_
    refine g_iald X (af_ia4 ho1) dX0_takeOver_79 h (fun h => ?_)
    refine g_iast X (af_ia4 ho) dX0_takeOver_80 h (fun M6 h => ?_)
    refine g_aload_n X dX0_takeOver_81 rfl 0 rfl ?_
    refine fg_X0_24 X ho dX0_takeOver_82 ?_
    refine g_iload_n X dX0_takeOver_85 rfl 2 rfl ?_
    refine g_aload_n X dX0_takeOver_86 rfl 1 rfl ?_
    refine fg_X0_24 X ho1 dX0_takeOver_87 ?_
    refine g_iload_n X dX0_takeOver_90 rfl 2 rfl ?_
    refine g_zald X (af_za5 ho1) dX0_takeOver_91 h (fun h => ?_)
    refine g_zast X (af_za5 ho) dX0_takeOver_92 h (fun M7 h => ?_)
    refine g_iinc (w := 1) X dX0_takeOver_93 2 rfl (by decide) (Nat.le_of_ble_eq_true rfl) rfl (fun x2_8 => [(0, .ref (ad E o)), (1, .ref (ad E o1)), (2, .int x2_8)]) (fun _ => rfl) h (fun x2_8 h => ?_)
    refine g_goto (tgt := 64) X dX0_takeOver_96 (by decide) ?_
    exact h
theorem k_X0_takeOver_b39 {E : Ek} {x : MC} (X : Cx E x cX0_takeOver 3 RX0 1) {Post : Mem → Prop} (hQ : QV E x Post none) {o : Nat} {o1 : Nat} (ho : Aff o) (ho1 : Aff o1) {M : Mem} {v2 : Int32} (h : wp_X0_takeOver_b39 Post o o1 (fun M v2 => G E x M 2 [(0, .ref (ad E o)), (1, .ref (ad E o1)), (2, .int v2)] []) (fun M v2 => G E x M 39 [(0, .ref (ad E o)), (1, .ref (ad E o1)), (2, .int v2)] []) (fun M v2 => G E x M 64 [(0, .ref (ad E o)), (1, .ref (ad E o1)), (2, .int v2)] []) (fun M v2 => G E x M 101 [(0, .ref (ad E o)), (1, .ref (ad E o1)), (2, .int v2)] []) M v2) : G E x M 39 [(0, .ref (ad E o)), (1, .ref (ad E o1)), (2, .int v2)] [] := by
  refine g_iload_n X dX0_takeOver_39 rfl 2 rfl ?_
  refine g_iconst (v := 2) X dX0_takeOver_40 (by decide) ?_
  refine g_icmpge (tgt := 62) X dX0_takeOver_41 (by decide) h (fun h => ?_) (fun h => ?_)
  · refine g_iconst (v := 0) X dX0_takeOver_62 (by decide) ?_
    refine g_istore_n (lv' := [(0, .ref (ad E o)), (1, .ref (ad E o1)), (2, .int 0)]) X dX0_takeOver_63 rfl (Nat.le_of_ble_eq_true rfl) rfl rfl ?_
    exact h
  · refine g_aload_n X dX0_takeOver_44 rfl 0 rfl ?_
    refine fg_X0_18 X ho dX0_takeOver_45 ?_
    refine g_iload_n X dX0_takeOver_48 rfl 2 rfl ?_
    refine g_aload_n X dX0_takeOver_49 rfl 1 rfl ?_
    refine fg_X0_18 X ho1 dX0_takeOver_50 ?_
    refine g_iload_n X dX0_takeOver_53 rfl 2 rfl ?_
    refine g_iald X (af_ia3 ho1) dX0_takeOver_54 h (fun h => ?_)
    refine g_iast X (af_ia3 ho) dX0_takeOver_55 h (fun M4 h => ?_)
    refine g_iinc (w := 1) X dX0_takeOver_56 2 rfl (by decide) (Nat.le_of_ble_eq_true rfl) rfl (fun x2_5 => [(0, .ref (ad E o)), (1, .ref (ad E o1)), (2, .int x2_5)]) (fun _ => rfl) h (fun x2_5 h => ?_)
    refine g_goto (tgt := 39) X dX0_takeOver_59 (by decide) ?_
    exact h
theorem k_X0_takeOver_b2 {E : Ek} {x : MC} (X : Cx E x cX0_takeOver 3 RX0 1) {Post : Mem → Prop} (hQ : QV E x Post none) {o : Nat} {o1 : Nat} (ho : Aff o) (ho1 : Aff o1) {M : Mem} {v2 : Int32} (h : wp_X0_takeOver_b2 Post o o1 (fun M v2 => G E x M 2 [(0, .ref (ad E o)), (1, .ref (ad E o1)), (2, .int v2)] []) (fun M v2 => G E x M 39 [(0, .ref (ad E o)), (1, .ref (ad E o1)), (2, .int v2)] []) (fun M v2 => G E x M 64 [(0, .ref (ad E o)), (1, .ref (ad E o1)), (2, .int v2)] []) (fun M v2 => G E x M 101 [(0, .ref (ad E o)), (1, .ref (ad E o1)), (2, .int v2)] []) M v2) : G E x M 2 [(0, .ref (ad E o)), (1, .ref (ad E o1)), (2, .int v2)] [] := by
  refine g_iload_n X dX0_takeOver_2 rfl 2 rfl ?_
  refine g_iconst (v := 4) X dX0_takeOver_3 (by decide) ?_
  refine g_icmpge (tgt := 37) X dX0_takeOver_4 (by decide) h (fun h => ?_) (fun h => ?_)
  · refine g_iconst (v := 0) X dX0_takeOver_37 (by decide) ?_
    refine g_istore_n (lv' := [(0, .ref (ad E o)), (1, .ref (ad E o1)), (2, .int 0)]) X dX0_takeOver_38 rfl (Nat.le_of_ble_eq_true rfl) rfl rfl ?_
    exact h
  · refine g_aload_n X dX0_takeOver_7 rfl 0 rfl ?_
    refine fg_X0_9 X ho dX0_takeOver_8 ?_
    refine g_iload_n X dX0_takeOver_11 rfl 2 rfl ?_
    refine g_aload_n X dX0_takeOver_12 rfl 1 rfl ?_
    refine fg_X0_9 X ho1 dX0_takeOver_13 ?_
    refine g_iload_n X dX0_takeOver_16 rfl 2 rfl ?_
    refine g_iald X (af_ia1 ho1) dX0_takeOver_17 h (fun h => ?_)
    refine g_iast X (af_ia1 ho) dX0_takeOver_18 h (fun M1 h => ?_)
    refine g_aload_n X dX0_takeOver_19 rfl 0 rfl ?_
    refine fg_X0_15 X ho dX0_takeOver_20 ?_
    refine g_iload_n X dX0_takeOver_23 rfl 2 rfl ?_
    refine g_aload_n X dX0_takeOver_24 rfl 1 rfl ?_
    refine fg_X0_15 X ho1 dX0_takeOver_25 ?_
    refine g_iload_n X dX0_takeOver_28 rfl 2 rfl ?_
    refine g_iald X (af_ia2 ho1) dX0_takeOver_29 h (fun h => ?_)
    refine g_iast X (af_ia2 ho) dX0_takeOver_30 h (fun M2 h => ?_)
    refine g_iinc (w := 1) X dX0_takeOver_31 2 rfl (by decide) (Nat.le_of_ble_eq_true rfl) rfl (fun x2_3 => [(0, .ref (ad E o)), (1, .ref (ad E o1)), (2, .int x2_3)]) (fun _ => rfl) h (fun x2_3 h => ?_)
    refine g_goto (tgt := 2) X dX0_takeOver_34 (by decide) ?_
    exact h
theorem w_X0_takeOver (E : Ek) (l : Launch) {o : Nat} {o1 : Nat} (ho : Aff o) (ho1 : Aff o1) {M : Mem} {Post : Mem → Prop} (h : wp_X0_takeOver Post M o o1) : ctV E l yX0_takeOver cX0_takeOver 3 none 1 [.ref (ad E o), .ref (ad E o1)] M Post := by
  refine ct_of (by decide) (Nat.le_of_ble_eq_true rfl) (fun x X hQ => ?_)
  have h := h (fun M v2 => G E x M 2 [(0, .ref (ad E o)), (1, .ref (ad E o1)), (2, .int v2)] []) (fun M v2 => G E x M 39 [(0, .ref (ad E o)), (1, .ref (ad E o1)), (2, .int v2)] []) (fun M v2 => G E x M 64 [(0, .ref (ad E o)), (1, .ref (ad E o1)), (2, .int v2)] []) (fun M v2 => G E x M 101 [(0, .ref (ad E o)), (1, .ref (ad E o1)), (2, .int v2)] []) (fun M v2 h => k_X0_takeOver_b2 X hQ ho ho1 h) (fun M v2 h => k_X0_takeOver_b39 X hQ ho ho1 h) (fun M v2 h => k_X0_takeOver_b64 X hQ ho ho1 h) (fun M v2 h => k_X0_takeOver_b101 X hQ ho ho1 h)
  change G E x M 0 [(0, .ref (ad E o)), (1, .ref (ad E o1))] []
  refine g_iconst (v := 0) X dX0_takeOver_0 (by decide) ?_
  refine g_istore_n (lv' := [(0, .ref (ad E o)), (1, .ref (ad E o1)), (2, .int 0)]) X dX0_takeOver_1 rfl (Nat.le_of_ble_eq_true rfl) rfl rfl ?_
  exact h
theorem cl_X5_35 {E : Ek} {x : MC} {cc : ByteArray} {nL hm pc : Nat} {M : Mem} {lv : List (Nat × Value)} {st : List Value} (X : Cx E x cc nL RX5 hm) {o : Nat} {o1 : Nat} (ho : Aff o) (ho1 : Aff o1) {Post : Mem → Prop} (hr : 1 < hm) (hW : (st.map fun v => v.category).sum ≤ 8) (hd : decode cc pc = .ok (.invokevirtual 35, 3)) (h : wp_X0_takeOver Post M o o1) (kk : ∀ M1, Post M1 → G E x M1 (pc + 3) lv st) : G E x M pc lv (.ref (ad E o1) :: .ref (ad E o) :: st) := k_V (fun hP hS hL => run_VN X (w_X0_takeOver E (xl x) ho ho1 h) cw_X0_takeOver m342 m343 m344 (af_oc ho) hr rfl hd hW hP hS hL) kk
theorem cl_X11_219 {E : Ek} {x : MC} {cc : ByteArray} {nL hm pc : Nat} {M : Mem} {lv : List (Nat × Value)} {st : List Value} (X : Cx E x cc nL RX11 hm) {o : Nat} {o1 : Nat} (ho : Aff o) (ho1 : Aff o1) {Post : Mem → Prop} (hr : 1 < hm) (hW : (st.map fun v => v.category).sum ≤ 8) (hd : decode cc pc = .ok (.invokevirtual 219, 3)) (h : wp_X0_takeOver Post M o o1) (kk : ∀ M1, Post M1 → G E x M1 (pc + 3) lv st) : G E x M pc lv (.ref (ad E o1) :: .ref (ad E o) :: st) := k_V (fun hP hS hL => run_VN X (w_X0_takeOver E (xl x) ho ho1 h) cw_X0_takeOver m406 m343 m344 (af_oc ho) hr rfl hd hW hP hS hL) kk
theorem cw_X0_payAll : CW yX0_payAll cX0_payAll 6 (some .int) 2 := ⟨m326, m144, Nat.le_of_ble_eq_true rfl, by decide +kernel⟩
def wp_X0_payAll_b45 (Post : Int32 → Mem → Prop) (o : Nat) (v1 : Int32) (v2 : Int32) (P5 : Mem → Int32 → Int32 → Prop) (M : Mem) (v3 : Int32) (v4 : Int32) (s0 : Int32) : Prop :=
 (s0 = 0 →
  ∀ x4_1 : Int32, x4_1 = v4 + 1 →
  P5 M v3 x4_1) ∧
 (¬ s0 = 0 →
  vp_in v4 4 ∧
  (¬ (rd M 8 v4.toNatClampNeg) = v1 →
   ∀ x4_2 : Int32, x4_2 = v4 + 1 →
   P5 M v3 x4_2) ∧
  ((rd M 8 v4.toNatClampNeg) = v1 →
   wp_X0_mayPay (fun r3 M4 =>
    (r3 = 0 →
     ∀ x4_5 : Int32, x4_5 = v4 + 1 →
     P5 M4 v3 x4_5) ∧
    (¬ r3 = 0 →
     wp_X0_settle (fun M7 =>
      vp_in v4 4 ∧
      ∀ x3_8 : Int32, x3_8 = v3 + (rd M7 (o + 4) v4.toNatClampNeg) →
      ∀ x4_9 : Int32, x4_9 = v4 + 1 →
      P5 M7 x3_8 x4_9) M4 o v4)) M o v4))
def wp_X0_payAll_b40 (Post : Int32 → Mem → Prop) (o : Nat) (v1 : Int32) (v2 : Int32) (P5 : Mem → Int32 → Int32 → Prop) (M : Mem) (v3 : Int32) (v4 : Int32) : Prop :=
 wp_X0_payAll_b45 Post o v1 v2 P5 M v3 v4 1
def wp_X0_payAll_b5 (Post : Int32 → Mem → Prop) (o : Nat) (v1 : Int32) (v2 : Int32) (P5 : Mem → Int32 → Int32 → Prop) (M : Mem) (v3 : Int32) (v4 : Int32) : Prop :=
 ((rd M 3 3) ≤ v4 →
  Post v3 M) ∧
 (¬ (rd M 3 3) ≤ v4 →
  (v2 = 0 →
   wp_X0_payAll_b40 Post o v1 v2 P5 M v3 v4) ∧
  (¬ v2 = 0 →
   vp_in v4 4 ∧
   vp_in v1 4 ∧
   (¬ (rd M 10 v4.toNatClampNeg) = (rd M (o + 2) v1.toNatClampNeg) →
    wp_X0_payAll_b45 Post o v1 v2 P5 M v3 v4 0) ∧
   ((rd M 10 v4.toNatClampNeg) = (rd M (o + 2) v1.toNatClampNeg) →
    wp_X0_payAll_b40 Post o v1 v2 P5 M v3 v4)))
def wp_X0_payAll (Post : Int32 → Mem → Prop) (M : Mem) (o : Nat) (v1 : Int32) (v2 : Int32) : Prop :=
 ∀ (P5 : Mem → Int32 → Int32 → Prop) ,
  (∀ (M : Mem) (v3 : Int32) (v4 : Int32), wp_X0_payAll_b5 Post o v1 v2 P5 M v3 v4 → P5 M v3 v4) →
 P5 M 0 0
theorem k_X0_payAll_b45 {E : Ek} {x : MC} (X : Cx E x cX0_payAll 6 RX0 4) {Post : Int32 → Mem → Prop} (hQ : QI E x Post (some .int)) {o : Nat} {v1 : Int32} {v2 : Int32} (ho : Aff o) {M : Mem} {v3 : Int32} {v4 : Int32} {s0 : Int32} (h : wp_X0_payAll_b45 Post o v1 v2 (fun M v3 v4 => G E x M 5 [(0, .ref (ad E o)), (1, .int v1), (2, .int v2), (3, .int v3), (4, .int v4)] []) M v3 v4 s0) : G E x M 45 [(0, .ref (ad E o)), (1, .int v1), (2, .int v2), (3, .int v3), (4, .int v4)] [.int s0] := by
  refine g_istore (lv' := [(0, .ref (ad E o)), (1, .int v1), (2, .int v2), (3, .int v3), (4, .int v4), (5, .int s0)]) X dX0_payAll_45 (Nat.le_of_ble_eq_true rfl) rfl rfl ?_
  refine g_iload X dX0_payAll_47 5 rfl ?_
  refine g_ifeq (tgt := 91) X dX0_payAll_49 (by decide) h (fun h => ?_) (fun h => ?_)
  · refine g_iinc (w := 1) X dX0_payAll_91 4 rfl (by decide) (Nat.le_of_ble_eq_true rfl) rfl (fun x4_1 => [(0, .ref (ad E o)), (1, .int v1), (2, .int v2), (3, .int v3), (4, .int x4_1), (5, .int s0)]) (fun _ => rfl) h (fun x4_1 h => ?_)
    refine g_goto (tgt := 5) X dX0_payAll_94 (by decide) ?_
    exact g_sub [0, 1, 2, 3, 4] rfl h
  · refine g_aload_n X dX0_payAll_52 rfl 0 rfl ?_
    refine fg_X0_34 X ho dX0_payAll_53 ?_
    refine fg_X0_71 X dX0_payAll_56 ?_
    refine g_iload X dX0_payAll_59 4 rfl ?_
    refine g_iald X ia_8 dX0_payAll_61 h (fun h => ?_)
    refine g_iload_n X dX0_payAll_62 rfl 1 rfl ?_
    refine g_icmpne (tgt := 91) X dX0_payAll_63 (by decide) h (fun h => ?_) (fun h => ?_)
    · refine g_iinc (w := 1) X dX0_payAll_91 4 rfl (by decide) (Nat.le_of_ble_eq_true rfl) rfl (fun x4_2 => [(0, .ref (ad E o)), (1, .int v1), (2, .int v2), (3, .int v3), (4, .int x4_2), (5, .int s0)]) (fun _ => rfl) h (fun x4_2 h => ?_)
      refine g_goto (tgt := 5) X dX0_payAll_94 (by decide) ?_
      exact g_sub [0, 1, 2, 3, 4] rfl h
    · refine g_aload_n X dX0_payAll_66 rfl 0 rfl ?_
      refine g_iload X dX0_payAll_67 4 rfl ?_
      refine cl_X0_98 X ho (by decide) (Nat.le_of_ble_eq_true rfl) dX0_payAll_69 h (fun r3 M4 h => ?_)
      refine g_ifeq (tgt := 91) X dX0_payAll_72 (by decide) h (fun h => ?_) (fun h => ?_)
      · refine g_iinc (w := 1) X dX0_payAll_91 4 rfl (by decide) (Nat.le_of_ble_eq_true rfl) rfl (fun x4_5 => [(0, .ref (ad E o)), (1, .int v1), (2, .int v2), (3, .int v3), (4, .int x4_5), (5, .int s0)]) (fun _ => rfl) h (fun x4_5 h => ?_)
        refine g_goto (tgt := 5) X dX0_payAll_94 (by decide) ?_
        exact g_sub [0, 1, 2, 3, 4] rfl h
      · refine g_aload_n X dX0_payAll_75 rfl 0 rfl ?_
        refine g_iload X dX0_payAll_76 4 rfl ?_
        refine cl_X0_102 X ho (by decide) (Nat.le_of_ble_eq_true rfl) dX0_payAll_78 h (fun M7 h => ?_)
        refine g_iload_n X dX0_payAll_81 rfl 3 rfl ?_
        refine g_aload_n X dX0_payAll_82 rfl 0 rfl ?_
        refine fg_X0_21 X ho dX0_payAll_83 ?_
        refine g_iload X dX0_payAll_86 4 rfl ?_
        refine g_iald X (af_ia4 ho) dX0_payAll_88 h (fun h => ?_)
        refine g_iadd X dX0_payAll_89 ?_
        refine g_nm h (fun x3_8 h => ?_)
        refine g_istore_n (lv' := [(0, .ref (ad E o)), (1, .int v1), (2, .int v2), (3, .int x3_8), (4, .int v4), (5, .int s0)]) X dX0_payAll_90 rfl (Nat.le_of_ble_eq_true rfl) rfl rfl ?_
        refine g_iinc (w := 1) X dX0_payAll_91 4 rfl (by decide) (Nat.le_of_ble_eq_true rfl) rfl (fun x4_9 => [(0, .ref (ad E o)), (1, .int v1), (2, .int v2), (3, .int x3_8), (4, .int x4_9), (5, .int s0)]) (fun _ => rfl) h (fun x4_9 h => ?_)
        refine g_goto (tgt := 5) X dX0_payAll_94 (by decide) ?_
        exact g_sub [0, 1, 2, 3, 4] rfl h
theorem k_X0_payAll_b40 {E : Ek} {x : MC} (X : Cx E x cX0_payAll 6 RX0 4) {Post : Int32 → Mem → Prop} (hQ : QI E x Post (some .int)) {o : Nat} {v1 : Int32} {v2 : Int32} (ho : Aff o) {M : Mem} {v3 : Int32} {v4 : Int32} (h : wp_X0_payAll_b40 Post o v1 v2 (fun M v3 v4 => G E x M 5 [(0, .ref (ad E o)), (1, .int v1), (2, .int v2), (3, .int v3), (4, .int v4)] []) M v3 v4) : G E x M 40 [(0, .ref (ad E o)), (1, .int v1), (2, .int v2), (3, .int v3), (4, .int v4)] [] := by
  refine g_iconst (v := 1) X dX0_payAll_40 (by decide) ?_
  refine g_goto (tgt := 45) X dX0_payAll_41 (by decide) ?_
  exact (k_X0_payAll_b45 X hQ ho h)
theorem k_X0_payAll_b5 {E : Ek} {x : MC} (X : Cx E x cX0_payAll 6 RX0 4) {Post : Int32 → Mem → Prop} (hQ : QI E x Post (some .int)) {o : Nat} {v1 : Int32} {v2 : Int32} (ho : Aff o) {M : Mem} {v3 : Int32} {v4 : Int32} (h : wp_X0_payAll_b5 Post o v1 v2 (fun M v3 v4 => G E x M 5 [(0, .ref (ad E o)), (1, .int v1), (2, .int v2), (3, .int v3), (4, .int v4)] []) M v3 v4) : G E x M 5 [(0, .ref (ad E o)), (1, .int v1), (2, .int v2), (3, .int v3), (4, .int v4)] [] := by
  refine g_iload X dX0_payAll_5 4 rfl ?_
  refine g_aload_n X dX0_payAll_7 rfl 0 rfl ?_
  refine fg_X0_34 X ho dX0_payAll_8 ?_
  refine fg_X0_95 X dX0_payAll_11 ?_
  refine g_icmpge (tgt := 97) X dX0_payAll_14 (by decide) h (fun h => ?_) (fun h => ?_)
  · refine g_iload_n X dX0_payAll_97 rfl 3 rfl ?_
    exact g_iret X hQ dX0_payAll_98 h
  · refine g_iload_n X dX0_payAll_17 rfl 2 rfl ?_
    refine g_ifeq (tgt := 40) X dX0_payAll_18 (by decide) h (fun h => ?_) (fun h => ?_)
    · exact (k_X0_payAll_b40 X hQ ho h)
    · refine g_aload_n X dX0_payAll_21 rfl 0 rfl ?_
      refine fg_X0_34 X ho dX0_payAll_22 ?_
      refine fg_X0_81 X dX0_payAll_25 ?_
      refine g_iload X dX0_payAll_28 4 rfl ?_
      refine g_iald X ia_10 dX0_payAll_30 h (fun h => ?_)
      refine g_aload_n X dX0_payAll_31 rfl 0 rfl ?_
      refine fg_X0_15 X ho dX0_payAll_32 ?_
      refine g_iload_n X dX0_payAll_35 rfl 1 rfl ?_
      refine g_iald X (af_ia2 ho) dX0_payAll_36 h (fun h => ?_)
      refine g_icmpne (tgt := 44) X dX0_payAll_37 (by decide) h (fun h => ?_) (fun h => ?_)
      · refine g_iconst (v := 0) X dX0_payAll_44 (by decide) ?_
        exact (k_X0_payAll_b45 X hQ ho h)
      · exact (k_X0_payAll_b40 X hQ ho h)
theorem w_X0_payAll (E : Ek) (l : Launch) {o : Nat} {v1 : Int32} {v2 : Int32} (ho : Aff o) {M : Mem} {Post : Int32 → Mem → Prop} (h : wp_X0_payAll Post M o v1 v2) : ctI E l yX0_payAll cX0_payAll 6 (some .int) 4 [.ref (ad E o), .int v1, .int v2] M Post := by
  refine ct_of (by decide) (Nat.le_of_ble_eq_true rfl) (fun x X hQ => ?_)
  have h := h (fun M v3 v4 => G E x M 5 [(0, .ref (ad E o)), (1, .int v1), (2, .int v2), (3, .int v3), (4, .int v4)] []) (fun M v3 v4 h => k_X0_payAll_b5 X hQ ho h)
  change G E x M 0 [(0, .ref (ad E o)), (1, .int v1), (2, .int v2)] []
  refine g_iconst (v := 0) X dX0_payAll_0 (by decide) ?_
  refine g_istore_n (lv' := [(0, .ref (ad E o)), (1, .int v1), (2, .int v2), (3, .int 0)]) X dX0_payAll_1 rfl (Nat.le_of_ble_eq_true rfl) rfl rfl ?_
  refine g_iconst (v := 0) X dX0_payAll_2 (by decide) ?_
  refine g_istore (lv' := [(0, .ref (ad E o)), (1, .int v1), (2, .int v2), (3, .int 0), (4, .int 0)]) X dX0_payAll_3 (Nat.le_of_ble_eq_true rfl) rfl rfl ?_
  exact h
theorem cl_X5_43 {E : Ek} {x : MC} {cc : ByteArray} {nL hm pc : Nat} {M : Mem} {lv : List (Nat × Value)} {st : List Value} (X : Cx E x cc nL RX5 hm) {o : Nat} {v1 : Int32} {v2 : Int32} (ho : Aff o) {Post : Int32 → Mem → Prop} (hr : 4 < hm) (hW : (st.map fun v => v.category).sum ≤ 8) (hd : decode cc pc = .ok (.invokevirtual 43, 3)) (h : wp_X0_payAll Post M o v1 v2) (kk : ∀ r M1, Post r M1 → G E x M1 (pc + 3) lv (.int r :: st)) : G E x M pc lv (.int v2 :: .int v1 :: .ref (ad E o) :: st) := k_I (fun hP hS hL => run_VN X (w_X0_payAll E (xl x) ho h) cw_X0_payAll m333 m334 m335 (af_oc ho) hr rfl hd hW hP hS hL) kk
theorem cl_X11_248 {E : Ek} {x : MC} {cc : ByteArray} {nL hm pc : Nat} {M : Mem} {lv : List (Nat × Value)} {st : List Value} (X : Cx E x cc nL RX11 hm) {o : Nat} {v1 : Int32} {v2 : Int32} (ho : Aff o) {Post : Int32 → Mem → Prop} (hr : 4 < hm) (hW : (st.map fun v => v.category).sum ≤ 8) (hd : decode cc pc = .ok (.invokevirtual 248, 3)) (h : wp_X0_payAll Post M o v1 v2) (kk : ∀ r M1, Post r M1 → G E x M1 (pc + 3) lv (.int r :: st)) : G E x M pc lv (.int v2 :: .int v1 :: .ref (ad E o) :: st) := k_I (fun hP hS hL => run_VN X (w_X0_payAll E (xl x) ho h) cw_X0_payAll m447 m334 m335 (af_oc ho) hr rfl hd hW hP hS hL) kk
theorem cw_X5_keepIfMore : CW yX5_keepIfMore cX5_keepIfMore 3 none 1 := ⟨m330, m331, Nat.le_of_ble_eq_true rfl, by decide +kernel⟩
def wp_X5_keepIfMore_b15 (Post : Mem → Prop) (v1 : Int32) (P15 : Mem → Int32 → Prop) (M : Mem) (v2 : Int32) : Prop :=
 (4 ≤ v2 →
  Post M) ∧
 (¬ 4 ≤ v2 →
  vp_in v2 4 ∧
  vp_in v2 4 ∧
  ∀ M2 : Mem, M2 = wr M 22 v2.toNatClampNeg (rd M 21 v2.toNatClampNeg) →
  ∀ x2_3 : Int32, x2_3 = v2 + 1 →
  P15 M2 x2_3)
def wp_X5_keepIfMore (Post : Mem → Prop) (M : Mem) (v1 : Int32) : Prop :=
 ∀ (P15 : Mem → Int32 → Prop) ,
  (∀ (M : Mem) (v2 : Int32), wp_X5_keepIfMore_b15 Post v1 P15 M v2 → P15 M v2) →
 (v1 ≤ (rd M 19 4) →
  Post M) ∧
 (¬ v1 ≤ (rd M 19 4) →
  ∀ M1 : Mem, M1 = wr M 19 4 v1 →
  P15 M1 0)
theorem k_X5_keepIfMore_b15 {E : Ek} {x : MC} (X : Cx E x cX5_keepIfMore 3 RX5 1) {Post : Mem → Prop} (hQ : QV E x Post none) {v1 : Int32} {M : Mem} {v2 : Int32} (h : wp_X5_keepIfMore_b15 Post v1 (fun M v2 => G E x M 15 [(0, .ref (ad E 19)), (2, .int v2)] []) M v2) : G E x M 15 [(0, .ref (ad E 19)), (2, .int v2)] [] := by
  refine g_iload_n X dX5_keepIfMore_15 rfl 1 rfl ?_
  refine g_iconst (v := 4) X dX5_keepIfMore_16 (by decide) ?_
  refine g_icmpge (tgt := 38) X dX5_keepIfMore_17 (by decide) h (fun h => ?_) (fun h => ?_)
  · exact g_vret X hQ dX5_keepIfMore_38 h
  · refine g_aload_n X dX5_keepIfMore_20 rfl 0 rfl ?_
    refine fg_X5_21 X dX5_keepIfMore_21 ?_
    refine g_iload_n X dX5_keepIfMore_24 rfl 1 rfl ?_
    refine g_aload_n X dX5_keepIfMore_25 rfl 0 rfl ?_
    refine fg_X5_17 X dX5_keepIfMore_26 ?_
    refine g_iload_n X dX5_keepIfMore_29 rfl 1 rfl ?_
    refine g_iald X ia_21 dX5_keepIfMore_30 h (fun h => ?_)
    refine g_iast X ia_22 dX5_keepIfMore_31 h (fun M2 h => ?_)
    refine g_iinc (w := 1) X dX5_keepIfMore_32 1 rfl (by decide) (Nat.le_of_ble_eq_true rfl) rfl (fun x2_3 => [(0, .ref (ad E 19)), (2, .int x2_3)]) (fun _ => rfl) h (fun x2_3 h => ?_)
    refine g_goto (tgt := 15) X dX5_keepIfMore_35 (by decide) ?_
    exact h
theorem w_X5_keepIfMore (E : Ek) (l : Launch) {v1 : Int32} {M : Mem} {Post : Mem → Prop} (h : wp_X5_keepIfMore Post M v1) : ctV E l yX5_keepIfMore cX5_keepIfMore 3 none 1 [.ref (ad E 19), .int v1] M Post := by
  refine ct_of (by decide) (Nat.le_of_ble_eq_true rfl) (fun x X hQ => ?_)
  have h := h (fun M v2 => G E x M 15 [(0, .ref (ad E 19)), (2, .int v2)] []) (fun M v2 h => k_X5_keepIfMore_b15 X hQ  h)
  change G E x M 0 [(0, .ref (ad E 19)), (1, .int v1)] []
  refine g_iload_n X dX5_keepIfMore_0 rfl 1 rfl ?_
  refine g_aload_n X dX5_keepIfMore_1 rfl 0 rfl ?_
  refine fg_X5_31 X dX5_keepIfMore_2 ?_
  refine g_icmple (tgt := 38) X dX5_keepIfMore_5 (by decide) h (fun h => ?_) (fun h => ?_)
  · exact g_vret X hQ dX5_keepIfMore_38 h
  · refine g_aload_n X dX5_keepIfMore_8 rfl 0 rfl ?_
    refine g_iload_n X dX5_keepIfMore_9 rfl 1 rfl ?_
    refine fp_X5_31 X dX5_keepIfMore_10 h (fun M1 h => ?_)
    refine g_iconst (v := 0) X dX5_keepIfMore_13 (by decide) ?_
    refine g_istore_n (lv' := [(0, .ref (ad E 19)), (1, .int v1), (2, .int 0)]) X dX5_keepIfMore_14 rfl (Nat.le_of_ble_eq_true rfl) rfl rfl ?_
    exact g_sub [0, 2] rfl h
theorem cl_X5_47 {E : Ek} {x : MC} {cc : ByteArray} {nL hm pc : Nat} {M : Mem} {lv : List (Nat × Value)} {st : List Value} (X : Cx E x cc nL RX5 hm) {v1 : Int32} {Post : Mem → Prop} (hr : 1 < hm) (hW : (st.map fun v => v.category).sum ≤ 8) (hd : decode cc pc = .ok (.invokevirtual 47, 3)) (h : wp_X5_keepIfMore Post M v1) (kk : ∀ M1, Post M1 → G E x M1 (pc + 3) lv st) : G E x M pc lv (.int v1 :: .ref (ad E 19) :: st) := k_V (fun hP hS hL => run_V X (w_X5_keepIfMore E (xl x)  h) cw_X5_keepIfMore m336 m337 m338 (⟨by decide, fun E f h => ⟨_, _, _, rfl, rfl, rfl⟩⟩ : OC 19 RX5) hr rfl hd hW hP hS hL) kk
theorem cw_X5_goOn : CW yX5_goOn cX5_goOn 9 none 5 := ⟨m348, m331, Nat.le_of_ble_eq_true rfl, by decide +kernel⟩
def wp_X5_goOn_b56 (Post : Mem → Prop) (v1 : Int32) (v2 : Int32) (v3 : Int32) (v4 : Int32) (R : (Mem → Prop) → Mem → Int32 → Int32 → Int32 → Int32 → Prop) (P56 : Mem → Int32 → Int32 → Prop) (M : Mem) (v6 : Int32) (v8 : Int32) : Prop :=
 ((rd M 3 1) ≤ v8 →
  Post M) ∧
 (¬ (rd M 3 1) ≤ v8 →
  wp_X0_mayGo (fun r8 M9 =>
   (r8 = 0 →
    ∀ x8_10 : Int32, x8_10 = v8 + 1 →
    P56 M9 v6 x8_10) ∧
   (¬ r8 = 0 →
    vp_in v3 4 ∧
    ∀ M11 : Mem, M11 = wr M9 21 v3.toNatClampNeg v8 →
    wp_X0_takeOver (fun M13 =>
     wp_X0_goThrough (fun M15 =>
      R (fun M17 =>
       ∀ x8_18 : Int32, x8_18 = v8 + 1 →
       P56 M17 v6 x8_18) M15 v1 v2 (v3 + 1) v6) M13 (83 + 8 * (v3 + 1).toNatClampNeg) v1 v8) M11 (83 + 8 * (v3 + 1).toNatClampNeg) (83 + 8 * v3.toNatClampNeg))) M (83 + 8 * v3.toNatClampNeg) v1 v8)
def wp_X5_goOn : Nat → (Mem → Prop) → Mem → Int32 → Int32 → Int32 → Int32 → Prop
  | 0, _, _, _, _, _, _ => False
  | fu + 1, Post, M, v1, v2, v3, v4 =>
  ∀ (P56 : Mem → Int32 → Int32 → Prop) ,
   (∀ (M : Mem) (v6 : Int32) (v8 : Int32), wp_X5_goOn_b56 Post v1 v2 v3 v4 (wp_X5_goOn fu) P56 M v6 v8 → P56 M v6 v8) →
  (v3 ≤ 4 →
   vp_in v3 5 ∧
   wp_X0_payAll (fun r1 M2 =>
    ∀ x6_3 : Int32, x6_3 = v4 + r1 →
    (v2 ≤ v3 →
     wp_X5_keepIfMore (fun M5 =>
      Post M5) M2 x6_3) ∧
    (¬ v2 ≤ v3 →
     (v3 < 4 →
      vp_in (v3 + 1) 5 ∧
      P56 M2 x6_3 0) ∧
     (¬ v3 < 4 →
      wp_X5_keepIfMore (fun M7 =>
       Post M7) M2 x6_3))) M (83 + 8 * v3.toNatClampNeg) v1 1) ∧
  (¬ v3 ≤ 4 →
   Post M)
theorem k_X5_goOn_b56 {E : Ek} {x : MC} {fu : Nat} (X : Cx E x cX5_goOn 9 RX5 (fu + 5)) {Post : Mem → Prop} (hQ : QV E x Post none) {v1 : Int32} {v2 : Int32} {v3 : Int32} {v4 : Int32} {R : (Mem → Prop) → Mem → Int32 → Int32 → Int32 → Int32 → Prop} (ihc : ∀ {Post : Mem → Prop} {M : Mem} {v1 : Int32} {v2 : Int32} {v3 : Int32} {v4 : Int32} , R Post M v1 v2 v3 v4 → ctV E (xl x) yX5_goOn cX5_goOn 9 none (fu + 4) [.ref (ad E 19), .int v1, .int v2, .int v3, .int v4] M Post) {M : Mem} {v6 : Int32} {v8 : Int32} (hr0 : Aff (83 + 8 * v3.toNatClampNeg)) (hr1 : Aff (83 + 8 * (v3 + 1).toNatClampNeg)) (h : wp_X5_goOn_b56 Post v1 v2 v3 v4 R (fun M v6 v8 => Aff (83 + 8 * v3.toNatClampNeg) → Aff (83 + 8 * (v3 + 1).toNatClampNeg) → G E x M 56 [(0, .ref (ad E 19)), (1, .int v1), (2, .int v2), (3, .int v3), (5, .ref (ad E (83 + 8 * v3.toNatClampNeg))), (6, .int v6), (7, .ref (ad E (83 + 8 * (v3 + 1).toNatClampNeg))), (8, .int v8)] []) M v6 v8) : G E x M 56 [(0, .ref (ad E 19)), (1, .int v1), (2, .int v2), (3, .int v3), (5, .ref (ad E (83 + 8 * v3.toNatClampNeg))), (6, .int v6), (7, .ref (ad E (83 + 8 * (v3 + 1).toNatClampNeg))), (8, .int v8)] [] := by
  refine g_iload X dX5_goOn_56 7 rfl ?_
  refine g_aload_n X dX5_goOn_58 rfl 0 rfl ?_
  refine fg_X5_24 X dX5_goOn_59 ?_
  refine fg_X5_51 X dX5_goOn_62 ?_
  refine g_icmpge (tgt := 119) X dX5_goOn_65 (by decide) h (fun h => ?_) (fun h => ?_)
  · exact g_vret X hQ dX5_goOn_119 h
  · refine g_aload X dX5_goOn_68 4 rfl ?_
    refine g_iload_n X dX5_goOn_70 rfl 1 rfl ?_
    refine g_iload X dX5_goOn_71 7 rfl ?_
    refine cl_X5_56 X hr0 (by omega) (Nat.le_of_ble_eq_true rfl) dX5_goOn_73 h (fun r8 M9 h => ?_)
    refine g_ifeq (tgt := 113) X dX5_goOn_76 (by decide) h (fun h => ?_) (fun h => ?_)
    · refine g_iinc (w := 1) X dX5_goOn_113 7 rfl (by decide) (Nat.le_of_ble_eq_true rfl) rfl (fun x8_10 => [(0, .ref (ad E 19)), (1, .int v1), (2, .int v2), (3, .int v3), (5, .ref (ad E (83 + 8 * v3.toNatClampNeg))), (6, .int v6), (7, .ref (ad E (83 + 8 * (v3 + 1).toNatClampNeg))), (8, .int x8_10)]) (fun _ => rfl) h (fun x8_10 h => ?_)
      refine g_goto (tgt := 56) X dX5_goOn_116 (by decide) ?_
      exact (h hr0 hr1)
    · refine g_aload_n X dX5_goOn_79 rfl 0 rfl ?_
      refine fg_X5_17 X dX5_goOn_80 ?_
      refine g_iload_n X dX5_goOn_83 rfl 3 rfl ?_
      refine g_iload X dX5_goOn_84 7 rfl ?_
      refine g_iast X ia_21 dX5_goOn_86 h (fun M11 h => ?_)
      refine g_aload X dX5_goOn_87 6 rfl ?_
      refine g_aload X dX5_goOn_89 4 rfl ?_
      refine cl_X5_35 X hr1 hr0 (by omega) (Nat.le_of_ble_eq_true rfl) dX5_goOn_91 h (fun M13 h => ?_)
      refine g_aload X dX5_goOn_94 6 rfl ?_
      refine g_iload_n X dX5_goOn_96 rfl 1 rfl ?_
      refine g_iload X dX5_goOn_97 7 rfl ?_
      refine cl_X5_60 X hr1 (by omega) (Nat.le_of_ble_eq_true rfl) dX5_goOn_99 h (fun M15 h => ?_)
      refine g_aload_n X dX5_goOn_102 rfl 0 rfl ?_
      refine g_iload_n X dX5_goOn_103 rfl 1 rfl ?_
      refine g_iload_n X dX5_goOn_104 rfl 2 rfl ?_
      refine g_iload_n X dX5_goOn_105 rfl 3 rfl ?_
      refine g_iconst (v := 1) X dX5_goOn_106 (by decide) ?_
      refine g_iadd X dX5_goOn_107 ?_
      refine g_iload X dX5_goOn_108 5 rfl ?_
      refine k_V (fun hP hS hL => run_S (st := []) X (ihc h) cw_X5_goOn m346 m347 (by omega) rfl dX5_goOn_110 (Nat.le_of_ble_eq_true rfl) hP hS hL) (fun M17 h => ?_)
      refine g_iinc (w := 1) X dX5_goOn_113 7 rfl (by decide) (Nat.le_of_ble_eq_true rfl) rfl (fun x8_18 => [(0, .ref (ad E 19)), (1, .int v1), (2, .int v2), (3, .int v3), (5, .ref (ad E (83 + 8 * v3.toNatClampNeg))), (6, .int v6), (7, .ref (ad E (83 + 8 * (v3 + 1).toNatClampNeg))), (8, .int x8_18)]) (fun _ => rfl) h (fun x8_18 h => ?_)
      refine g_goto (tgt := 56) X dX5_goOn_116 (by decide) ?_
      exact (h hr0 hr1)
theorem w_X5_goOn (E : Ek) : ∀ (fu : Nat) (l : Launch) {v1 : Int32} {v2 : Int32} {v3 : Int32} {v4 : Int32} {M : Mem} {Post : Mem → Prop} (h : wp_X5_goOn fu Post M v1 v2 v3 v4), ctV E l yX5_goOn cX5_goOn 9 none (fu + 4) [.ref (ad E 19), .int v1, .int v2, .int v3, .int v4] M Post := by
  intro fu
  induction fu with
  | zero => intro l v1 v2 v3 v4 M Post h; exact absurd h (by simp [wp_X5_goOn])
  | succ fu ih =>
  intro l v1 v2 v3 v4 M Post h
  refine ct_of (by decide) (Nat.le_of_ble_eq_true rfl) (fun x X hQ => ?_)
  have X : Cx E x cX5_goOn 9 RX5 (fu + 5) := by rw [show fu + 5 = fu + 1 + 4 by omega]; exact X
  have ihc : ∀ {Post : Mem → Prop} {M : Mem} {v1 : Int32} {v2 : Int32} {v3 : Int32} {v4 : Int32} , wp_X5_goOn fu Post M v1 v2 v3 v4 → ctV E (xl x) yX5_goOn cX5_goOn 9 none (fu + 4) [.ref (ad E 19), .int v1, .int v2, .int v3, .int v4] M Post := fun h => ih (xl x) h
  have h := h (fun M v6 v8 => Aff (83 + 8 * v3.toNatClampNeg) → Aff (83 + 8 * (v3 + 1).toNatClampNeg) → G E x M 56 [(0, .ref (ad E 19)), (1, .int v1), (2, .int v2), (3, .int v3), (5, .ref (ad E (83 + 8 * v3.toNatClampNeg))), (6, .int v6), (7, .ref (ad E (83 + 8 * (v3 + 1).toNatClampNeg))), (8, .int v8)] []) (fun M v6 v8 h hr0 hr1 => k_X5_goOn_b56 X hQ  ihc hr0 hr1 h)
  change G E x M 0 [(0, .ref (ad E 19)), (1, .int v1), (2, .int v2), (3, .int v3), (4, .int v4)] []
  refine g_iload_n X dX5_goOn_0 rfl 3 rfl ?_
  refine g_iconst (v := 4) X dX5_goOn_1 (by decide) ?_
  refine g_icmple (tgt := 6) X dX5_goOn_2 (by decide) h (fun h => ?_) (fun h => ?_)
  · refine g_aload_n X dX5_goOn_6 rfl 0 rfl ?_
    refine fg_X5_11 X dX5_goOn_7 ?_
    refine g_iload_n X dX5_goOn_10 rfl 3 rfl ?_
    refine g_lald X dX5_goOn_11 h (fun hi1 h => ?_)
    refine g_astore (lv' := [(0, .ref (ad E 19)), (1, .int v1), (2, .int v2), (3, .int v3), (4, .int v4), (5, .ref (ad E (83 + 8 * v3.toNatClampNeg)))]) X dX5_goOn_12 (Nat.le_of_ble_eq_true rfl) rfl rfl ?_
    refine g_iload X dX5_goOn_14 4 rfl ?_
    refine g_aload X dX5_goOn_16 5 rfl ?_
    refine g_iload_n X dX5_goOn_18 rfl 1 rfl ?_
    refine g_iconst (v := 1) X dX5_goOn_19 (by decide) ?_
    refine cl_X5_43 X (aff_lev (vp_lt hi1)) (by omega) (Nat.le_of_ble_eq_true rfl) dX5_goOn_20 h (fun r1 M2 h => ?_)
    refine g_iadd X dX5_goOn_23 ?_
    refine g_nm h (fun x6_3 h => ?_)
    refine g_istore (lv' := [(0, .ref (ad E 19)), (1, .int v1), (2, .int v2), (3, .int v3), (4, .int v4), (5, .ref (ad E (83 + 8 * v3.toNatClampNeg))), (6, .int x6_3)]) X dX5_goOn_24 (Nat.le_of_ble_eq_true rfl) rfl rfl ?_
    refine g_iload_n X dX5_goOn_26 rfl 3 rfl ?_
    refine g_iload_n X dX5_goOn_27 rfl 2 rfl ?_
    refine g_icmpge (tgt := 36) X dX5_goOn_28 (by decide) h (fun h => ?_) (fun h => ?_)
    · refine g_aload_n X dX5_goOn_36 rfl 0 rfl ?_
      refine g_iload X dX5_goOn_37 6 rfl ?_
      refine cl_X5_47 X (by omega) (Nat.le_of_ble_eq_true rfl) dX5_goOn_39 h (fun M5 h => ?_)
      exact g_vret X hQ dX5_goOn_42 h
    · refine g_iload_n X dX5_goOn_31 rfl 3 rfl ?_
      refine g_iconst (v := 4) X dX5_goOn_32 (by decide) ?_
      refine g_icmplt (tgt := 43) X dX5_goOn_33 (by decide) h (fun h => ?_) (fun h => ?_)
      · refine g_aload_n X dX5_goOn_43 rfl 0 rfl ?_
        refine fg_X5_11 X dX5_goOn_44 ?_
        refine g_iload_n X dX5_goOn_47 rfl 3 rfl ?_
        refine g_iconst (v := 1) X dX5_goOn_48 (by decide) ?_
        refine g_iadd X dX5_goOn_49 ?_
        refine g_lald X dX5_goOn_50 h (fun hi2 h => ?_)
        refine g_astore (lv' := [(0, .ref (ad E 19)), (1, .int v1), (2, .int v2), (3, .int v3), (4, .int v4), (5, .ref (ad E (83 + 8 * v3.toNatClampNeg))), (6, .int x6_3), (7, .ref (ad E (83 + 8 * (v3 + 1).toNatClampNeg)))]) X dX5_goOn_51 (Nat.le_of_ble_eq_true rfl) rfl rfl ?_
        refine g_iconst (v := 0) X dX5_goOn_53 (by decide) ?_
        refine g_istore (lv' := [(0, .ref (ad E 19)), (1, .int v1), (2, .int v2), (3, .int v3), (4, .int v4), (5, .ref (ad E (83 + 8 * v3.toNatClampNeg))), (6, .int x6_3), (7, .ref (ad E (83 + 8 * (v3 + 1).toNatClampNeg))), (8, .int 0)]) X dX5_goOn_54 (Nat.le_of_ble_eq_true rfl) rfl rfl ?_
        exact g_sub [0, 1, 2, 3, 5, 6, 7, 8] rfl (h (aff_lev (vp_lt hi1)) (aff_lev (vp_lt hi2)))
      · refine g_aload_n X dX5_goOn_36 rfl 0 rfl ?_
        refine g_iload X dX5_goOn_37 6 rfl ?_
        refine cl_X5_47 X (by omega) (Nat.le_of_ble_eq_true rfl) dX5_goOn_39 h (fun M7 h => ?_)
        exact g_vret X hQ dX5_goOn_42 h
  · exact g_vret X hQ dX5_goOn_5 h
theorem cl_X5_39 {E : Ek} {x : MC} {cc : ByteArray} {nL hm pc : Nat} {M : Mem} {lv : List (Nat × Value)} {st : List Value} (X : Cx E x cc nL RX5 hm) {v1 : Int32} {v2 : Int32} {v3 : Int32} {v4 : Int32} {fu : Nat} {Post : Mem → Prop} (hr : fu + 4 < hm) (hW : (st.map fun v => v.category).sum ≤ 8) (hd : decode cc pc = .ok (.invokestatic 39, 3)) (h : wp_X5_goOn fu Post M v1 v2 v3 v4) (kk : ∀ M1, Post M1 → G E x M1 (pc + 3) lv st) : G E x M pc lv (.int v4 :: .int v3 :: .int v2 :: .int v1 :: .ref (ad E 19) :: st) := k_V (fun hP hS hL => run_S X (w_X5_goOn E fu (xl x)  h) cw_X5_goOn m346 m347 hr rfl hd hW hP hS hL) kk
theorem cw_X5_search : CW yX5_search cX5_search 4 none 3 := ⟨m349, m331, Nat.le_of_ble_eq_true rfl, by decide +kernel⟩
def wp_X5_search (Post : Mem → Prop) (M : Mem) (o1 : Nat) (v2 : Int32) (v3 : Int32) : Prop :=
 ∀ M1 : Mem, M1 = wr M 19 4 (-1) →
 vp_in 0 5 ∧
 wp_X0_takeOver (fun M3 =>
  wp_X5_goOn 6 (fun M5 =>
   Post M5) M3 v2 v3 0 0) M1 (83 + 8 * (0 : Int32).toNatClampNeg) o1
theorem w_X5_search (E : Ek) (l : Launch) {o1 : Nat} {v2 : Int32} {v3 : Int32} (ho1 : Aff o1) {M : Mem} {Post : Mem → Prop} (h : wp_X5_search Post M o1 v2 v3) : ctV E l yX5_search cX5_search 4 none 12 [.ref (ad E 19), .ref (ad E o1), .int v2, .int v3] M Post := by
  refine ct_of (by decide) (Nat.le_of_ble_eq_true rfl) (fun x X hQ => ?_)
  change G E x M 0 [(0, .ref (ad E 19)), (1, .ref (ad E o1)), (2, .int v2), (3, .int v3)] []
  refine g_aload_n X dX5_search_0 rfl 0 rfl ?_
  refine g_iconst (v := (-1)) X dX5_search_1 (by decide) ?_
  refine fp_X5_31 X dX5_search_2 h (fun M1 h => ?_)
  refine g_aload_n X dX5_search_5 rfl 0 rfl ?_
  refine fg_X5_11 X dX5_search_6 ?_
  refine g_iconst (v := 0) X dX5_search_9 (by decide) ?_
  refine g_lald X dX5_search_10 h (fun hi1 h => ?_)
  refine g_aload_n X dX5_search_11 rfl 1 rfl ?_
  refine cl_X5_35 X (aff_lev (vp_lt hi1)) ho1 (by decide) (Nat.le_of_ble_eq_true rfl) dX5_search_12 h (fun M3 h => ?_)
  refine g_aload_n X dX5_search_15 rfl 0 rfl ?_
  refine g_iload_n X dX5_search_16 rfl 2 rfl ?_
  refine g_iload_n X dX5_search_17 rfl 3 rfl ?_
  refine g_iconst (v := 0) X dX5_search_18 (by decide) ?_
  refine g_iconst (v := 0) X dX5_search_19 (by decide) ?_
  refine cl_X5_39 X (by decide) (Nat.le_of_ble_eq_true rfl) dX5_search_20 h (fun M5 h => ?_)
  exact g_vret X hQ dX5_search_23 h
theorem cl_X11_201 {E : Ek} {x : MC} {cc : ByteArray} {nL hm pc : Nat} {M : Mem} {lv : List (Nat × Value)} {st : List Value} (X : Cx E x cc nL RX11 hm) {o1 : Nat} {v2 : Int32} {v3 : Int32} (ho1 : Aff o1) {Post : Mem → Prop} (hr : 12 < hm) (hW : (st.map fun v => v.category).sum ≤ 8) (hd : decode cc pc = .ok (.invokevirtual 201, 3)) (h : wp_X5_search Post M o1 v2 v3) (kk : ∀ M1, Post M1 → G E x M1 (pc + 3) lv st) : G E x M pc lv (.int v3 :: .int v2 :: .ref (ad E o1) :: .ref (ad E 19) :: st) := k_V (fun hP hS hL => run_VN X (w_X5_search E (xl x) ho1 h) cw_X5_search m352 m353 m354 (⟨by decide, fun E f h => ⟨_, _, _, rfl, rfl, rfl⟩⟩ : OC 19 RX5) hr rfl hd hW hP hS hL) kk
theorem cw_X5_doorAt : CW yX5_doorAt cX5_doorAt 3 (some .int) 2 := ⟨m350, m331, Nat.le_of_ble_eq_true rfl, by decide +kernel⟩
def wp_X5_doorAt (Post : Int32 → Mem → Prop) (M : Mem) (v1 : Int32) (v2 : Int32) : Prop :=
 ((rd M 19 4) = (-1) →
  Post (-1) M) ∧
 (¬ (rd M 19 4) = (-1) →
  (v2 ≤ v1 →
   Post (-1) M) ∧
  (¬ v2 ≤ v1 →
   (v1 < 4 →
    vp_in v1 4 ∧
    Post (rd M 22 v1.toNatClampNeg) M) ∧
   (¬ v1 < 4 →
    Post (-1) M)))
theorem w_X5_doorAt (E : Ek) (l : Launch) {v1 : Int32} {v2 : Int32} {M : Mem} {Post : Int32 → Mem → Prop} (h : wp_X5_doorAt Post M v1 v2) : ctI E l yX5_doorAt cX5_doorAt 3 (some .int) 1 [.ref (ad E 19), .int v1, .int v2] M Post := by
  refine ct_of (by decide) (Nat.le_of_ble_eq_true rfl) (fun x X hQ => ?_)
  change G E x M 0 [(0, .ref (ad E 19)), (1, .int v1), (2, .int v2)] []
  refine g_aload_n X dX5_doorAt_0 rfl 0 rfl ?_
  refine fg_X5_31 X dX5_doorAt_1 ?_
  refine g_iconst (v := (-1)) X dX5_doorAt_4 (by decide) ?_
  refine g_icmpeq (tgt := 18) X dX5_doorAt_5 (by decide) h (fun h => ?_) (fun h => ?_)
  · refine g_iconst (v := (-1)) X dX5_doorAt_18 (by decide) ?_
    refine g_goto (tgt := 28) X dX5_doorAt_19 (by decide) ?_
    exact g_iret X hQ dX5_doorAt_28 h
  · refine g_iload_n X dX5_doorAt_8 rfl 1 rfl ?_
    refine g_iload_n X dX5_doorAt_9 rfl 2 rfl ?_
    refine g_icmpge (tgt := 18) X dX5_doorAt_10 (by decide) h (fun h => ?_) (fun h => ?_)
    · refine g_iconst (v := (-1)) X dX5_doorAt_18 (by decide) ?_
      refine g_goto (tgt := 28) X dX5_doorAt_19 (by decide) ?_
      exact g_iret X hQ dX5_doorAt_28 h
    · refine g_iload_n X dX5_doorAt_13 rfl 1 rfl ?_
      refine g_iconst (v := 4) X dX5_doorAt_14 (by decide) ?_
      refine g_icmplt (tgt := 22) X dX5_doorAt_15 (by decide) h (fun h => ?_) (fun h => ?_)
      · refine g_aload_n X dX5_doorAt_22 rfl 0 rfl ?_
        refine fg_X5_21 X dX5_doorAt_23 ?_
        refine g_iload_n X dX5_doorAt_26 rfl 1 rfl ?_
        refine g_iald X ia_22 dX5_doorAt_27 h (fun h => ?_)
        exact g_iret X hQ dX5_doorAt_28 h
      · refine g_iconst (v := (-1)) X dX5_doorAt_18 (by decide) ?_
        refine g_goto (tgt := 28) X dX5_doorAt_19 (by decide) ?_
        exact g_iret X hQ dX5_doorAt_28 h
theorem cl_X11_208 {E : Ek} {x : MC} {cc : ByteArray} {nL hm pc : Nat} {M : Mem} {lv : List (Nat × Value)} {st : List Value} (X : Cx E x cc nL RX11 hm) {v1 : Int32} {v2 : Int32} {Post : Int32 → Mem → Prop} (hr : 1 < hm) (hW : (st.map fun v => v.category).sum ≤ 8) (hd : decode cc pc = .ok (.invokevirtual 208, 3)) (h : wp_X5_doorAt Post M v1 v2) (kk : ∀ r M1, Post r M1 → G E x M1 (pc + 3) lv (.int r :: st)) : G E x M pc lv (.int v2 :: .int v1 :: .ref (ad E 19) :: st) := k_I (fun hP hS hL => run_VN X (w_X5_doorAt E (xl x)  h) cw_X5_doorAt m355 m356 m357 (⟨by decide, fun E f h => ⟨_, _, _, rfl, rfl, rfl⟩⟩ : OC 19 RX5) hr rfl hd hW hP hS hL) kk
theorem cw_X11_night : CW yX11_night cX11_night 4 (some .int) 3 := ⟨m359, m10, Nat.le_of_ble_eq_true rfl, by decide +kernel⟩
def wp_X11_night_b39 (Post : Int32 → Mem → Prop) (v1 : Int32) (v2 : Int32) (v3 : Int32) (M : Mem) : Prop :=
 wp_X5_search (fun M4 =>
  (¬ v3 = 0 →
   wp_X5_doorAt (fun r5 M6 =>
    Post r5 M6) M4 (v3 - 10) v2) ∧
  (v3 = 0 →
   Post (rd M4 19 4) M4)) M 59 v1 v2
def wp_X11_night (Post : Int32 → Mem → Prop) (M : Mem) (v1 : Int32) (v2 : Int32) (v3 : Int32) : Prop :=
 wp_X11_isNobody (fun r1 M2 =>
  (r1 = 0 →
   (v2 < 0 →
    Post (-102) M2) ∧
   (¬ v2 < 0 →
    (4 < v2 →
     Post (-102) M2) ∧
    (¬ 4 < v2 →
     (v3 = 0 →
      wp_X11_night_b39 Post v1 v2 v3 M2) ∧
     (¬ v3 = 0 →
      (v3 < 10 →
       Post (-102) M2) ∧
      (¬ v3 < 10 →
       (v3 ≤ 13 →
        wp_X11_night_b39 Post v1 v2 v3 M2) ∧
       (¬ v3 ≤ 13 →
        Post (-102) M2)))))) ∧
  (¬ r1 = 0 →
   Post (-101) M2)) M v1
theorem k_X11_night_b39 {E : Ek} {x : MC} (X : Cx E x cX11_night 4 RX11 13) {Post : Int32 → Mem → Prop} (hQ : QI E x Post (some .int)) {v1 : Int32} {v2 : Int32} {v3 : Int32} {M : Mem} (h : wp_X11_night_b39 Post v1 v2 v3 M ) : G E x M 39 [(0, .ref (ad E 0)), (1, .int v1), (2, .int v2), (3, .int v3)] [] := by
  refine g_aload_n X dX11_night_39 rfl 0 rfl ?_
  refine fg_X11_48 X dX11_night_40 ?_
  refine g_aload_n X dX11_night_43 rfl 0 rfl ?_
  refine fg_X11_28 X dX11_night_44 ?_
  refine g_iload_n X dX11_night_47 rfl 1 rfl ?_
  refine g_iload_n X dX11_night_48 rfl 2 rfl ?_
  refine cl_X11_201 X aff_59 (by decide) (Nat.le_of_ble_eq_true rfl) dX11_night_49 h (fun M4 h => ?_)
  refine g_iload_n X dX11_night_52 rfl 3 rfl ?_
  refine g_ifne (tgt := 66) X dX11_night_53 (by decide) h (fun h => ?_) (fun h => ?_)
  · refine g_aload_n X dX11_night_66 rfl 0 rfl ?_
    refine fg_X11_48 X dX11_night_67 ?_
    refine g_iload_n X dX11_night_70 rfl 3 rfl ?_
    refine g_bipush (v := 10) X dX11_night_71 (by decide) ?_
    refine g_isub X dX11_night_73 ?_
    refine g_iload_n X dX11_night_74 rfl 2 rfl ?_
    refine cl_X11_208 X (by decide) (Nat.le_of_ble_eq_true rfl) dX11_night_75 h (fun r5 M6 h => ?_)
    exact g_iret X hQ dX11_night_78 h
  · refine g_aload_n X dX11_night_56 rfl 0 rfl ?_
    refine fg_X11_48 X dX11_night_57 ?_
    refine fg_X11_205 X dX11_night_60 ?_
    refine g_goto (tgt := 78) X dX11_night_63 (by decide) ?_
    exact g_iret X hQ dX11_night_78 h
theorem w_X11_night (E : Ek) (l : Launch) {v1 : Int32} {v2 : Int32} {v3 : Int32} {M : Mem} {Post : Int32 → Mem → Prop} (h : wp_X11_night Post M v1 v2 v3) : ctI E l yX11_night cX11_night 4 (some .int) 13 [.ref (ad E 0), .int v1, .int v2, .int v3] M Post := by
  refine ct_of (by decide) (Nat.le_of_ble_eq_true rfl) (fun x X hQ => ?_)
  change G E x M 0 [(0, .ref (ad E 0)), (1, .int v1), (2, .int v2), (3, .int v3)] []
  refine g_aload_n X dX11_night_0 rfl 0 rfl ?_
  refine g_iload_n X dX11_night_1 rfl 1 rfl ?_
  refine cl_X11_93 X (by decide) (Nat.le_of_ble_eq_true rfl) dX11_night_2 h (fun r1 M2 h => ?_)
  refine g_ifeq (tgt := 11) X dX11_night_5 (by decide) h (fun h => ?_) (fun h => ?_)
  · refine g_iload_n X dX11_night_11 rfl 2 rfl ?_
    refine g_iflt (tgt := 36) X dX11_night_12 (by decide) h (fun h => ?_) (fun h => ?_)
    · refine g_bipush (v := (-102)) X dX11_night_36 (by decide) ?_
      exact g_iret X hQ dX11_night_38 h
    · refine g_iload_n X dX11_night_15 rfl 2 rfl ?_
      refine g_iconst (v := 4) X dX11_night_16 (by decide) ?_
      refine g_icmpgt (tgt := 36) X dX11_night_17 (by decide) h (fun h => ?_) (fun h => ?_)
      · refine g_bipush (v := (-102)) X dX11_night_36 (by decide) ?_
        exact g_iret X hQ dX11_night_38 h
      · refine g_iload_n X dX11_night_20 rfl 3 rfl ?_
        refine g_ifeq (tgt := 39) X dX11_night_21 (by decide) h (fun h => ?_) (fun h => ?_)
        · exact (k_X11_night_b39 X hQ  h)
        · refine g_iload_n X dX11_night_24 rfl 3 rfl ?_
          refine g_bipush (v := 10) X dX11_night_25 (by decide) ?_
          refine g_icmplt (tgt := 36) X dX11_night_27 (by decide) h (fun h => ?_) (fun h => ?_)
          · refine g_bipush (v := (-102)) X dX11_night_36 (by decide) ?_
            exact g_iret X hQ dX11_night_38 h
          · refine g_iload_n X dX11_night_30 rfl 3 rfl ?_
            refine g_bipush (v := 13) X dX11_night_31 (by decide) ?_
            refine g_icmple (tgt := 39) X dX11_night_33 (by decide) h (fun h => ?_) (fun h => ?_)
            · exact (k_X11_night_b39 X hQ  h)
            · refine g_bipush (v := (-102)) X dX11_night_36 (by decide) ?_
              exact g_iret X hQ dX11_night_38 h
  · refine g_bipush (v := (-101)) X dX11_night_8 (by decide) ?_
    exact g_iret X hQ dX11_night_10 h
theorem cw_X9_keepIfMore : CW yX9_keepIfMore cX9_keepIfMore 3 none 1 := ⟨m363, m364, Nat.le_of_ble_eq_true rfl, by decide +kernel⟩
def wp_X9_keepIfMore_b15 (Post : Mem → Prop) (v1 : Int32) (P15 : Mem → Int32 → Prop) (M : Mem) (v2 : Int32) : Prop :=
 (4 ≤ v2 →
  Post M) ∧
 (¬ 4 ≤ v2 →
  vp_in v2 4 ∧
  vp_in v2 4 ∧
  ∀ M2 : Mem, M2 = wr M 26 v2.toNatClampNeg (rd M 25 v2.toNatClampNeg) →
  ∀ x2_3 : Int32, x2_3 = v2 + 1 →
  P15 M2 x2_3)
def wp_X9_keepIfMore (Post : Mem → Prop) (M : Mem) (v1 : Int32) : Prop :=
 ∀ (P15 : Mem → Int32 → Prop) ,
  (∀ (M : Mem) (v2 : Int32), wp_X9_keepIfMore_b15 Post v1 P15 M v2 → P15 M v2) →
 (v1 ≤ (rd M 23 6) →
  Post M) ∧
 (¬ v1 ≤ (rd M 23 6) →
  ∀ M1 : Mem, M1 = wr M 23 6 v1 →
  P15 M1 0)
theorem k_X9_keepIfMore_b15 {E : Ek} {x : MC} (X : Cx E x cX9_keepIfMore 3 RX9 1) {Post : Mem → Prop} (hQ : QV E x Post none) {v1 : Int32} {M : Mem} {v2 : Int32} (h : wp_X9_keepIfMore_b15 Post v1 (fun M v2 => G E x M 15 [(0, .ref (ad E 23)), (2, .int v2)] []) M v2) : G E x M 15 [(0, .ref (ad E 23)), (2, .int v2)] [] := by
  refine g_iload_n X dX9_keepIfMore_15 rfl 1 rfl ?_
  refine g_iconst (v := 4) X dX9_keepIfMore_16 (by decide) ?_
  refine g_icmpge (tgt := 38) X dX9_keepIfMore_17 (by decide) h (fun h => ?_) (fun h => ?_)
  · exact g_vret X hQ dX9_keepIfMore_38 h
  · refine g_aload_n X dX9_keepIfMore_20 rfl 0 rfl ?_
    refine fg_X9_18 X dX9_keepIfMore_21 ?_
    refine g_iload_n X dX9_keepIfMore_24 rfl 1 rfl ?_
    refine g_aload_n X dX9_keepIfMore_25 rfl 0 rfl ?_
    refine fg_X9_15 X dX9_keepIfMore_26 ?_
    refine g_iload_n X dX9_keepIfMore_29 rfl 1 rfl ?_
    refine g_iald X ia_25 dX9_keepIfMore_30 h (fun h => ?_)
    refine g_iast X ia_26 dX9_keepIfMore_31 h (fun M2 h => ?_)
    refine g_iinc (w := 1) X dX9_keepIfMore_32 1 rfl (by decide) (Nat.le_of_ble_eq_true rfl) rfl (fun x2_3 => [(0, .ref (ad E 23)), (2, .int x2_3)]) (fun _ => rfl) h (fun x2_3 h => ?_)
    refine g_goto (tgt := 15) X dX9_keepIfMore_35 (by decide) ?_
    exact h
theorem w_X9_keepIfMore (E : Ek) (l : Launch) {v1 : Int32} {M : Mem} {Post : Mem → Prop} (h : wp_X9_keepIfMore Post M v1) : ctV E l yX9_keepIfMore cX9_keepIfMore 3 none 1 [.ref (ad E 23), .int v1] M Post := by
  refine ct_of (by decide) (Nat.le_of_ble_eq_true rfl) (fun x X hQ => ?_)
  have h := h (fun M v2 => G E x M 15 [(0, .ref (ad E 23)), (2, .int v2)] []) (fun M v2 h => k_X9_keepIfMore_b15 X hQ  h)
  change G E x M 0 [(0, .ref (ad E 23)), (1, .int v1)] []
  refine g_iload_n X dX9_keepIfMore_0 rfl 1 rfl ?_
  refine g_aload_n X dX9_keepIfMore_1 rfl 0 rfl ?_
  refine fg_X9_55 X dX9_keepIfMore_2 ?_
  refine g_icmple (tgt := 38) X dX9_keepIfMore_5 (by decide) h (fun h => ?_) (fun h => ?_)
  · exact g_vret X hQ dX9_keepIfMore_38 h
  · refine g_aload_n X dX9_keepIfMore_8 rfl 0 rfl ?_
    refine g_iload_n X dX9_keepIfMore_9 rfl 1 rfl ?_
    refine fp_X9_55 X dX9_keepIfMore_10 h (fun M1 h => ?_)
    refine g_iconst (v := 0) X dX9_keepIfMore_13 (by decide) ?_
    refine g_istore_n (lv' := [(0, .ref (ad E 23)), (1, .int v1), (2, .int 0)]) X dX9_keepIfMore_14 rfl (Nat.le_of_ble_eq_true rfl) rfl rfl ?_
    exact g_sub [0, 2] rfl h
theorem cl_X9_62 {E : Ek} {x : MC} {cc : ByteArray} {nL hm pc : Nat} {M : Mem} {lv : List (Nat × Value)} {st : List Value} (X : Cx E x cc nL RX9 hm) {v1 : Int32} {Post : Mem → Prop} (hr : 1 < hm) (hW : (st.map fun v => v.category).sum ≤ 8) (hd : decode cc pc = .ok (.invokevirtual 62, 3)) (h : wp_X9_keepIfMore Post M v1) (kk : ∀ M1, Post M1 → G E x M1 (pc + 3) lv st) : G E x M pc lv (.int v1 :: .ref (ad E 23) :: st) := k_V (fun hP hS hL => run_V X (w_X9_keepIfMore E (xl x)  h) cw_X9_keepIfMore m375 m376 m377 (⟨by decide, fun E f h => ⟨_, _, _, rfl, rfl, rfl⟩⟩ : OC 23 RX9) hr rfl hd hW hP hS hL) kk
