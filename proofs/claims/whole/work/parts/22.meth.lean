theorem cw_X0_payableBits : CW yX0_payableBits cX0_payableBits 4 (some .int) 1 := ⟨m190, m144, Nat.le_of_ble_eq_true rfl, by decide +kernel⟩
def wp_X0_payableBits_b4 (Post : Int32 → Mem → Prop) (o : Nat) (v1 : Int32) (P4 : Mem → Int32 → Int32 → Prop) (M : Mem) (v2 : Int32) (v3 : Int32) : Prop :=
 ((rd M 3 3) ≤ v3 →
  Post v2 M) ∧
 (¬ (rd M 3 3) ≤ v3 →
  vp_in v3 4 ∧
  (¬ (rd M 8 v3.toNatClampNeg) = v1 →
   ∀ x3_1 : Int32, x3_1 = v3 + 1 →
   P4 M v2 x3_1) ∧
  ((rd M 8 v3.toNatClampNeg) = v1 →
   wp_X0_mayPay (fun r2 M3 =>
    (r2 = 0 →
     ∀ x3_4 : Int32, x3_4 = v3 + 1 →
     P4 M3 v2 x3_4) ∧
    (¬ r2 = 0 →
     ∀ x2_5 : Int32, x2_5 = v2 ||| ((1 : Int32) <<< (v3 &&& 31)) →
     ∀ x3_6 : Int32, x3_6 = v3 + 1 →
     P4 M3 x2_5 x3_6)) M o v3))
def wp_X0_payableBits (Post : Int32 → Mem → Prop) (M : Mem) (o : Nat) (v1 : Int32) : Prop :=
 ∀ (P4 : Mem → Int32 → Int32 → Prop) ,
  (∀ (M : Mem) (v2 : Int32) (v3 : Int32), wp_X0_payableBits_b4 Post o v1 P4 M v2 v3 → P4 M v2 v3) →
 P4 M 0 0
theorem k_X0_payableBits_b4 {E : Ek} {x : MC} (X : Cx E x cX0_payableBits 4 RX0 4) {Post : Int32 → Mem → Prop} (hQ : QI E x Post (some .int)) {o : Nat} {v1 : Int32} (ho : Aff o) {M : Mem} {v2 : Int32} {v3 : Int32} (h : wp_X0_payableBits_b4 Post o v1 (fun M v2 v3 => G E x M 4 [(0, .ref (ad E o)), (1, .int v1), (2, .int v2), (3, .int v3)] []) M v2 v3) : G E x M 4 [(0, .ref (ad E o)), (1, .int v1), (2, .int v2), (3, .int v3)] [] := by
  refine g_iload_n X dX0_payableBits_4 rfl 3 rfl ?_
  refine g_aload_n X dX0_payableBits_5 rfl 0 rfl ?_
  refine fg_X0_34 X ho dX0_payableBits_6 ?_
  refine fg_X0_95 X dX0_payableBits_9 ?_
  refine g_icmpge (tgt := 48) X dX0_payableBits_12 (by decide) h (fun h => ?_) (fun h => ?_)
  · refine g_iload_n X dX0_payableBits_48 rfl 2 rfl ?_
    exact g_iret X hQ dX0_payableBits_49 h
  · refine g_aload_n X dX0_payableBits_15 rfl 0 rfl ?_
    refine fg_X0_34 X ho dX0_payableBits_16 ?_
    refine fg_X0_71 X dX0_payableBits_19 ?_
    refine g_iload_n X dX0_payableBits_22 rfl 3 rfl ?_
    refine g_iald X ia_8 dX0_payableBits_23 h (fun h => ?_)
    refine g_iload_n X dX0_payableBits_24 rfl 1 rfl ?_
    refine g_icmpne (tgt := 42) X dX0_payableBits_25 (by decide) h (fun h => ?_) (fun h => ?_)
    · refine g_iinc (w := 1) X dX0_payableBits_42 3 rfl (by decide) (Nat.le_of_ble_eq_true rfl) rfl (fun x3_1 => [(0, .ref (ad E o)), (1, .int v1), (2, .int v2), (3, .int x3_1)]) (fun _ => rfl) h (fun x3_1 h => ?_)
      refine g_goto (tgt := 4) X dX0_payableBits_45 (by decide) ?_
      exact h
    · refine g_aload_n X dX0_payableBits_28 rfl 0 rfl ?_
      refine g_iload_n X dX0_payableBits_29 rfl 3 rfl ?_
      refine cl_X0_98 X ho (by decide) (Nat.le_of_ble_eq_true rfl) dX0_payableBits_30 h (fun r2 M3 h => ?_)
      refine g_ifeq (tgt := 42) X dX0_payableBits_33 (by decide) h (fun h => ?_) (fun h => ?_)
      · refine g_iinc (w := 1) X dX0_payableBits_42 3 rfl (by decide) (Nat.le_of_ble_eq_true rfl) rfl (fun x3_4 => [(0, .ref (ad E o)), (1, .int v1), (2, .int v2), (3, .int x3_4)]) (fun _ => rfl) h (fun x3_4 h => ?_)
        refine g_goto (tgt := 4) X dX0_payableBits_45 (by decide) ?_
        exact h
      · refine g_iload_n X dX0_payableBits_36 rfl 2 rfl ?_
        refine g_iconst (v := 1) X dX0_payableBits_37 (by decide) ?_
        refine g_iload_n X dX0_payableBits_38 rfl 3 rfl ?_
        refine g_ishl X dX0_payableBits_39 ?_
        refine g_ior X dX0_payableBits_40 ?_
        refine g_nm h (fun x2_5 h => ?_)
        refine g_istore_n (lv' := [(0, .ref (ad E o)), (1, .int v1), (2, .int x2_5), (3, .int v3)]) X dX0_payableBits_41 rfl (Nat.le_of_ble_eq_true rfl) rfl rfl ?_
        refine g_iinc (w := 1) X dX0_payableBits_42 3 rfl (by decide) (Nat.le_of_ble_eq_true rfl) rfl (fun x3_6 => [(0, .ref (ad E o)), (1, .int v1), (2, .int x2_5), (3, .int x3_6)]) (fun _ => rfl) h (fun x3_6 h => ?_)
        refine g_goto (tgt := 4) X dX0_payableBits_45 (by decide) ?_
        exact h
theorem w_X0_payableBits (E : Ek) (l : Launch) {o : Nat} {v1 : Int32} (ho : Aff o) {M : Mem} {Post : Int32 → Mem → Prop} (h : wp_X0_payableBits Post M o v1) : ctI E l yX0_payableBits cX0_payableBits 4 (some .int) 4 [.ref (ad E o), .int v1] M Post := by
  refine ct_of (by decide) (Nat.le_of_ble_eq_true rfl) (fun x X hQ => ?_)
  have h := h (fun M v2 v3 => G E x M 4 [(0, .ref (ad E o)), (1, .int v1), (2, .int v2), (3, .int v3)] []) (fun M v2 v3 h => k_X0_payableBits_b4 X hQ ho h)
  change G E x M 0 [(0, .ref (ad E o)), (1, .int v1)] []
  refine g_iconst (v := 0) X dX0_payableBits_0 (by decide) ?_
  refine g_istore_n (lv' := [(0, .ref (ad E o)), (1, .int v1), (2, .int 0)]) X dX0_payableBits_1 rfl (Nat.le_of_ble_eq_true rfl) rfl rfl ?_
  refine g_iconst (v := 0) X dX0_payableBits_2 (by decide) ?_
  refine g_istore_n (lv' := [(0, .ref (ad E o)), (1, .int v1), (2, .int 0), (3, .int 0)]) X dX0_payableBits_3 rfl (Nat.le_of_ble_eq_true rfl) rfl rfl ?_
  exact h
theorem cl_X11_120 {E : Ek} {x : MC} {cc : ByteArray} {nL hm pc : Nat} {M : Mem} {lv : List (Nat × Value)} {st : List Value} (X : Cx E x cc nL RX11 hm) {o : Nat} {v1 : Int32} (ho : Aff o) {Post : Int32 → Mem → Prop} (hr : 4 < hm) (hW : (st.map fun v => v.category).sum ≤ 8) (hd : decode cc pc = .ok (.invokevirtual 120, 3)) (h : wp_X0_payableBits Post M o v1) (kk : ∀ r M1, Post r M1 → G E x M1 (pc + 3) lv (.int r :: st)) : G E x M pc lv (.int v1 :: .ref (ad E o) :: st) := k_I (fun hP hS hL => run_VN X (w_X0_payableBits E (xl x) ho h) cw_X0_payableBits m225 m226 m227 (af_oc ho) hr rfl hd hW hP hS hL) kk
theorem cw_X0_standing : CW yX0_standing cX0_standing 4 (some .int) 1 := ⟨m191, m144, Nat.le_of_ble_eq_true rfl, by decide +kernel⟩
def wp_X0_standing_b12 (Post : Int32 → Mem → Prop) (o : Nat) (v1 : Int32) (P12 : Mem → Int32 → Int32 → Prop) (M : Mem) (v2 : Int32) (v3 : Int32) : Prop :=
 ((rd M 3 3) ≤ v3 →
  Post v2 M) ∧
 (¬ (rd M 3 3) ≤ v3 →
  vp_in v3 4 ∧
  ((rd M (o + 5) v3.toNatClampNeg) = 0 →
   vp_in v3 4 ∧
   (¬ (rd M 9 v3.toNatClampNeg) = v1 →
    vp_in v3 4 ∧
    (¬ (rd M 8 v3.toNatClampNeg) = v1 →
     ∀ x3_2 : Int32, x3_2 = v3 + 1 →
     P12 M v2 x3_2) ∧
    ((rd M 8 v3.toNatClampNeg) = v1 →
     vp_in v3 4 ∧
     ∀ x2_3 : Int32, x2_3 = v2 - (rd M (o + 4) v3.toNatClampNeg) →
     ∀ x3_4 : Int32, x3_4 = v3 + 1 →
     P12 M x2_3 x3_4)) ∧
   ((rd M 9 v3.toNatClampNeg) = v1 →
    vp_in v3 4 ∧
    ∀ x2_5 : Int32, x2_5 = v2 + (rd M (o + 4) v3.toNatClampNeg) →
    ∀ x3_6 : Int32, x3_6 = v3 + 1 →
    P12 M x2_5 x3_6)) ∧
  (¬ (rd M (o + 5) v3.toNatClampNeg) = 0 →
   ∀ x3_7 : Int32, x3_7 = v3 + 1 →
   P12 M v2 x3_7))
def wp_X0_standing (Post : Int32 → Mem → Prop) (M : Mem) (o : Nat) (v1 : Int32) : Prop :=
 ∀ (P12 : Mem → Int32 → Int32 → Prop) ,
  (∀ (M : Mem) (v2 : Int32) (v3 : Int32), wp_X0_standing_b12 Post o v1 P12 M v2 v3 → P12 M v2 v3) →
 vp_in v1 4 ∧
 ∀ x2_1 : Int32, x2_1 = (100 : Int32) + (rd M (o + 1) v1.toNatClampNeg) →
 P12 M x2_1 0
theorem k_X0_standing_b12 {E : Ek} {x : MC} (X : Cx E x cX0_standing 4 RX0 1) {Post : Int32 → Mem → Prop} (hQ : QI E x Post (some .int)) {o : Nat} {v1 : Int32} (ho : Aff o) {M : Mem} {v2 : Int32} {v3 : Int32} (h : wp_X0_standing_b12 Post o v1 (fun M v2 v3 => G E x M 12 [(0, .ref (ad E o)), (1, .int v1), (2, .int v2), (3, .int v3)] []) M v2 v3) : G E x M 12 [(0, .ref (ad E o)), (1, .int v1), (2, .int v2), (3, .int v3)] [] := by
  refine g_iload_n X dX0_standing_12 rfl 3 rfl ?_
  refine g_aload_n X dX0_standing_13 rfl 0 rfl ?_
  refine fg_X0_34 X ho dX0_standing_14 ?_
  refine fg_X0_95 X dX0_standing_17 ?_
  refine g_icmpge (tgt := 88) X dX0_standing_20 (by decide) h (fun h => ?_) (fun h => ?_)
  · refine g_iload_n X dX0_standing_88 rfl 2 rfl ?_
    exact g_iret X hQ dX0_standing_89 h
  · refine g_aload_n X dX0_standing_23 rfl 0 rfl ?_
    refine fg_X0_24 X ho dX0_standing_24 ?_
    refine g_iload_n X dX0_standing_27 rfl 3 rfl ?_
    refine g_zald X (af_za5 ho) dX0_standing_28 h (fun h => ?_)
    refine g_ifeq (tgt := 35) X dX0_standing_29 (by decide) h (fun h => ?_) (fun h => ?_)
    · refine g_aload_n X dX0_standing_35 rfl 0 rfl ?_
      refine fg_X0_34 X ho dX0_standing_36 ?_
      refine fg_X0_84 X dX0_standing_39 ?_
      refine g_iload_n X dX0_standing_42 rfl 3 rfl ?_
      refine g_iald X ia_9 dX0_standing_43 h (fun h => ?_)
      refine g_iload_n X dX0_standing_44 rfl 1 rfl ?_
      refine g_icmpne (tgt := 60) X dX0_standing_45 (by decide) h (fun h => ?_) (fun h => ?_)
      · refine g_aload_n X dX0_standing_60 rfl 0 rfl ?_
        refine fg_X0_34 X ho dX0_standing_61 ?_
        refine fg_X0_71 X dX0_standing_64 ?_
        refine g_iload_n X dX0_standing_67 rfl 3 rfl ?_
        refine g_iald X ia_8 dX0_standing_68 h (fun h => ?_)
        refine g_iload_n X dX0_standing_69 rfl 1 rfl ?_
        refine g_icmpne (tgt := 82) X dX0_standing_70 (by decide) h (fun h => ?_) (fun h => ?_)
        · refine g_iinc (w := 1) X dX0_standing_82 3 rfl (by decide) (Nat.le_of_ble_eq_true rfl) rfl (fun x3_2 => [(0, .ref (ad E o)), (1, .int v1), (2, .int v2), (3, .int x3_2)]) (fun _ => rfl) h (fun x3_2 h => ?_)
          refine g_goto (tgt := 12) X dX0_standing_85 (by decide) ?_
          exact h
        · refine g_iload_n X dX0_standing_73 rfl 2 rfl ?_
          refine g_aload_n X dX0_standing_74 rfl 0 rfl ?_
          refine fg_X0_21 X ho dX0_standing_75 ?_
          refine g_iload_n X dX0_standing_78 rfl 3 rfl ?_
          refine g_iald X (af_ia4 ho) dX0_standing_79 h (fun h => ?_)
          refine g_isub X dX0_standing_80 ?_
          refine g_nm h (fun x2_3 h => ?_)
          refine g_istore_n (lv' := [(0, .ref (ad E o)), (1, .int v1), (2, .int x2_3), (3, .int v3)]) X dX0_standing_81 rfl (Nat.le_of_ble_eq_true rfl) rfl rfl ?_
          refine g_iinc (w := 1) X dX0_standing_82 3 rfl (by decide) (Nat.le_of_ble_eq_true rfl) rfl (fun x3_4 => [(0, .ref (ad E o)), (1, .int v1), (2, .int x2_3), (3, .int x3_4)]) (fun _ => rfl) h (fun x3_4 h => ?_)
          refine g_goto (tgt := 12) X dX0_standing_85 (by decide) ?_
          exact h
      · refine g_iload_n X dX0_standing_48 rfl 2 rfl ?_
        refine g_aload_n X dX0_standing_49 rfl 0 rfl ?_
        refine fg_X0_21 X ho dX0_standing_50 ?_
        refine g_iload_n X dX0_standing_53 rfl 3 rfl ?_
        refine g_iald X (af_ia4 ho) dX0_standing_54 h (fun h => ?_)
        refine g_iadd X dX0_standing_55 ?_
        refine g_nm h (fun x2_5 h => ?_)
        refine g_istore_n (lv' := [(0, .ref (ad E o)), (1, .int v1), (2, .int x2_5), (3, .int v3)]) X dX0_standing_56 rfl (Nat.le_of_ble_eq_true rfl) rfl rfl ?_
        refine g_goto (tgt := 82) X dX0_standing_57 (by decide) ?_
        refine g_iinc (w := 1) X dX0_standing_82 3 rfl (by decide) (Nat.le_of_ble_eq_true rfl) rfl (fun x3_6 => [(0, .ref (ad E o)), (1, .int v1), (2, .int x2_5), (3, .int x3_6)]) (fun _ => rfl) h (fun x3_6 h => ?_)
        refine g_goto (tgt := 12) X dX0_standing_85 (by decide) ?_
        exact h
    · refine g_goto (tgt := 82) X dX0_standing_32 (by decide) ?_
      refine g_iinc (w := 1) X dX0_standing_82 3 rfl (by decide) (Nat.le_of_ble_eq_true rfl) rfl (fun x3_7 => [(0, .ref (ad E o)), (1, .int v1), (2, .int v2), (3, .int x3_7)]) (fun _ => rfl) h (fun x3_7 h => ?_)
      refine g_goto (tgt := 12) X dX0_standing_85 (by decide) ?_
      exact h
theorem w_X0_standing (E : Ek) (l : Launch) {o : Nat} {v1 : Int32} (ho : Aff o) {M : Mem} {Post : Int32 → Mem → Prop} (h : wp_X0_standing Post M o v1) : ctI E l yX0_standing cX0_standing 4 (some .int) 1 [.ref (ad E o), .int v1] M Post := by
  refine ct_of (by decide) (Nat.le_of_ble_eq_true rfl) (fun x X hQ => ?_)
  have h := h (fun M v2 v3 => G E x M 12 [(0, .ref (ad E o)), (1, .int v1), (2, .int v2), (3, .int v3)] []) (fun M v2 v3 h => k_X0_standing_b12 X hQ ho h)
  change G E x M 0 [(0, .ref (ad E o)), (1, .int v1)] []
  refine g_bipush (v := 100) X dX0_standing_0 (by decide) ?_
  refine g_aload_n X dX0_standing_2 rfl 0 rfl ?_
  refine fg_X0_9 X ho dX0_standing_3 ?_
  refine g_iload_n X dX0_standing_6 rfl 1 rfl ?_
  refine g_iald X (af_ia1 ho) dX0_standing_7 h (fun h => ?_)
  refine g_iadd X dX0_standing_8 ?_
  refine g_nm h (fun x2_1 h => ?_)
  refine g_istore_n (lv' := [(0, .ref (ad E o)), (1, .int v1), (2, .int x2_1)]) X dX0_standing_9 rfl (Nat.le_of_ble_eq_true rfl) rfl rfl ?_
  refine g_iconst (v := 0) X dX0_standing_10 (by decide) ?_
  refine g_istore_n (lv' := [(0, .ref (ad E o)), (1, .int v1), (2, .int x2_1), (3, .int 0)]) X dX0_standing_11 rfl (Nat.le_of_ble_eq_true rfl) rfl rfl ?_
  exact h
theorem cl_X11_123 {E : Ek} {x : MC} {cc : ByteArray} {nL hm pc : Nat} {M : Mem} {lv : List (Nat × Value)} {st : List Value} (X : Cx E x cc nL RX11 hm) {o : Nat} {v1 : Int32} (ho : Aff o) {Post : Int32 → Mem → Prop} (hr : 1 < hm) (hW : (st.map fun v => v.category).sum ≤ 8) (hd : decode cc pc = .ok (.invokevirtual 123, 3)) (h : wp_X0_standing Post M o v1) (kk : ∀ r M1, Post r M1 → G E x M1 (pc + 3) lv (.int r :: st)) : G E x M pc lv (.int v1 :: .ref (ad E o) :: st) := k_I (fun hP hS hL => run_VN X (w_X0_standing E (xl x) ho h) cw_X0_standing m228 m229 m230 (af_oc ho) hr rfl hd hW hP hS hL) kk
theorem cw_X0_tooPoorBits : CW yX0_tooPoorBits cX0_tooPoorBits 2 (some .int) 1 := ⟨m192, m144, Nat.le_of_ble_eq_true rfl, by decide +kernel⟩
def wp_X0_tooPoorBits (Post : Int32 → Mem → Prop) (M : Mem) (o : Nat) (v1 : Int32) : Prop :=
 wp_X0_costOf (fun r1 M2 =>
  Post (((1 : Int32) <<< (r1 &&& 31)) - 1) M2) M o v1
theorem w_X0_tooPoorBits (E : Ek) (l : Launch) {o : Nat} {v1 : Int32} (ho : Aff o) {M : Mem} {Post : Int32 → Mem → Prop} (h : wp_X0_tooPoorBits Post M o v1) : ctI E l yX0_tooPoorBits cX0_tooPoorBits 2 (some .int) 3 [.ref (ad E o), .int v1] M Post := by
  refine ct_of (by decide) (Nat.le_of_ble_eq_true rfl) (fun x X hQ => ?_)
  change G E x M 0 [(0, .ref (ad E o)), (1, .int v1)] []
  refine g_iconst (v := 1) X dX0_tooPoorBits_0 (by decide) ?_
  refine g_aload_n X dX0_tooPoorBits_1 rfl 0 rfl ?_
  refine g_iload_n X dX0_tooPoorBits_2 rfl 1 rfl ?_
  refine cl_X0_78 X ho (by decide) (Nat.le_of_ble_eq_true rfl) dX0_tooPoorBits_3 h (fun r1 M2 h => ?_)
  refine g_ishl X dX0_tooPoorBits_6 ?_
  refine g_iconst (v := 1) X dX0_tooPoorBits_7 (by decide) ?_
  refine g_isub X dX0_tooPoorBits_8 ?_
  exact g_iret X hQ dX0_tooPoorBits_9 h
theorem cl_X0_124 {E : Ek} {x : MC} {cc : ByteArray} {nL hm pc : Nat} {M : Mem} {lv : List (Nat × Value)} {st : List Value} (X : Cx E x cc nL RX0 hm) {o : Nat} {v1 : Int32} (ho : Aff o) {Post : Int32 → Mem → Prop} (hr : 3 < hm) (hW : (st.map fun v => v.category).sum ≤ 8) (hd : decode cc pc = .ok (.invokevirtual 124, 3)) (h : wp_X0_tooPoorBits Post M o v1) (kk : ∀ r M1, Post r M1 → G E x M1 (pc + 3) lv (.int r :: st)) : G E x M pc lv (.int v1 :: .ref (ad E o) :: st) := k_I (fun hP hS hL => run_V X (w_X0_tooPoorBits E (xl x) ho h) cw_X0_tooPoorBits m196 m197 m198 (af_oc ho) hr rfl hd hW hP hS hL) kk
theorem cw_X0_purseBits : CW yX0_purseBits cX0_purseBits 5 (some .int) 1 := ⟨m199, m144, Nat.le_of_ble_eq_true rfl, by decide +kernel⟩
def wp_X0_purseBits_b6 (Post : Int32 → Mem → Prop) (o : Nat) (v1 : Int32) (P6 : Mem → Int32 → Int32 → Prop) (M : Mem) (v2 : Int32) (v3 : Int32) : Prop :=
 ((rd M o 8) ≤ v3 →
  Post v2 M) ∧
 (¬ (rd M o 8) ≤ v3 →
  (6 ≤ v3 →
   Post v2 M) ∧
  (¬ 6 ≤ v3 →
   vp_in v3 6 ∧
   ∀ x4_1 : Int32, x4_1 = rd M (o + 6) v3.toNatClampNeg →
   vp_in x4_1 4 ∧
   (¬ (rd M 8 x4_1.toNatClampNeg) = v1 →
    ∀ x3_2 : Int32, x3_2 = v3 + 1 →
    P6 M v2 x3_2) ∧
   ((rd M 8 x4_1.toNatClampNeg) = v1 →
    vp_in v3 6 ∧
    ((rd M (o + 7) v3.toNatClampNeg) = 0 →
     wp_X0_tooPoorBits (fun r3 M4 =>
      ∀ x2_5 : Int32, x2_5 = v2 &&& r3 →
      ∀ x3_6 : Int32, x3_6 = v3 + 1 →
      P6 M4 x2_5 x3_6) M o x4_1) ∧
    (¬ (rd M (o + 7) v3.toNatClampNeg) = 0 →
     wp_X0_tooPoorBits (fun r7 M8 =>
      ∀ x2_9 : Int32, x2_9 = v2 &&& (r7 ^^^ (-1)) →
      ∀ x3_10 : Int32, x3_10 = v3 + 1 →
      P6 M8 x2_9 x3_10) M o x4_1))))
def wp_X0_purseBits (Post : Int32 → Mem → Prop) (M : Mem) (o : Nat) (v1 : Int32) : Prop :=
 ∀ (P6 : Mem → Int32 → Int32 → Prop) ,
  (∀ (M : Mem) (v2 : Int32) (v3 : Int32), wp_X0_purseBits_b6 Post o v1 P6 M v2 v3 → P6 M v2 v3) →
 P6 M 1023 0
theorem k_X0_purseBits_b6 {E : Ek} {x : MC} (X : Cx E x cX0_purseBits 5 RX0 4) {Post : Int32 → Mem → Prop} (hQ : QI E x Post (some .int)) {o : Nat} {v1 : Int32} (ho : Aff o) {M : Mem} {v2 : Int32} {v3 : Int32} (h : wp_X0_purseBits_b6 Post o v1 (fun M v2 v3 => G E x M 6 [(0, .ref (ad E o)), (1, .int v1), (2, .int v2), (3, .int v3)] []) M v2 v3) : G E x M 6 [(0, .ref (ad E o)), (1, .int v1), (2, .int v2), (3, .int v3)] [] := by
  refine g_iload_n X dX0_purseBits_6 rfl 3 rfl ?_
  refine g_aload_n X dX0_purseBits_7 rfl 0 rfl ?_
  refine fg_X0_38 X ho dX0_purseBits_8 ?_
  refine g_icmpge (tgt := 77) X dX0_purseBits_11 (by decide) h (fun h => ?_) (fun h => ?_)
  · refine g_iload_n X dX0_purseBits_77 rfl 2 rfl ?_
    exact g_iret X hQ dX0_purseBits_78 h
  · refine g_iload_n X dX0_purseBits_14 rfl 3 rfl ?_
    refine g_bipush (v := 6) X dX0_purseBits_15 (by decide) ?_
    refine g_icmpge (tgt := 77) X dX0_purseBits_17 (by decide) h (fun h => ?_) (fun h => ?_)
    · refine g_iload_n X dX0_purseBits_77 rfl 2 rfl ?_
      exact g_iret X hQ dX0_purseBits_78 h
    · refine g_aload_n X dX0_purseBits_20 rfl 0 rfl ?_
      refine fg_X0_28 X ho dX0_purseBits_21 ?_
      refine g_iload_n X dX0_purseBits_24 rfl 3 rfl ?_
      refine g_iald X (af_ia6 ho) dX0_purseBits_25 h (fun h => ?_)
      refine g_nm h (fun x4_1 h => ?_)
      refine g_istore (lv' := [(0, .ref (ad E o)), (1, .int v1), (2, .int v2), (3, .int v3), (4, .int x4_1)]) X dX0_purseBits_26 (Nat.le_of_ble_eq_true rfl) rfl rfl ?_
      refine g_aload_n X dX0_purseBits_28 rfl 0 rfl ?_
      refine fg_X0_34 X ho dX0_purseBits_29 ?_
      refine fg_X0_71 X dX0_purseBits_32 ?_
      refine g_iload X dX0_purseBits_35 4 rfl ?_
      refine g_iald X ia_8 dX0_purseBits_37 h (fun h => ?_)
      refine g_iload_n X dX0_purseBits_38 rfl 1 rfl ?_
      refine g_icmpne (tgt := 71) X dX0_purseBits_39 (by decide) h (fun h => ?_) (fun h => ?_)
      · refine g_iinc (w := 1) X dX0_purseBits_71 3 rfl (by decide) (Nat.le_of_ble_eq_true rfl) rfl (fun x3_2 => [(0, .ref (ad E o)), (1, .int v1), (2, .int v2), (3, .int x3_2), (4, .int x4_1)]) (fun _ => rfl) h (fun x3_2 h => ?_)
        refine g_goto (tgt := 6) X dX0_purseBits_74 (by decide) ?_
        exact g_sub [0, 1, 2, 3] rfl h
      · refine g_iload_n X dX0_purseBits_42 rfl 2 rfl ?_
        refine g_aload_n X dX0_purseBits_43 rfl 0 rfl ?_
        refine fg_X0_31 X ho dX0_purseBits_44 ?_
        refine g_iload_n X dX0_purseBits_47 rfl 3 rfl ?_
        refine g_zald X (af_za7 ho) dX0_purseBits_48 h (fun h => ?_)
        refine g_ifeq (tgt := 63) X dX0_purseBits_49 (by decide) h (fun h => ?_) (fun h => ?_)
        · refine g_aload_n X dX0_purseBits_63 rfl 0 rfl ?_
          refine g_iload X dX0_purseBits_64 4 rfl ?_
          refine cl_X0_124 X ho (by decide) (Nat.le_of_ble_eq_true rfl) dX0_purseBits_66 h (fun r3 M4 h => ?_)
          refine g_iand X dX0_purseBits_69 ?_
          refine g_nm h (fun x2_5 h => ?_)
          refine g_istore_n (lv' := [(0, .ref (ad E o)), (1, .int v1), (2, .int x2_5), (3, .int v3), (4, .int x4_1)]) X dX0_purseBits_70 rfl (Nat.le_of_ble_eq_true rfl) rfl rfl ?_
          refine g_iinc (w := 1) X dX0_purseBits_71 3 rfl (by decide) (Nat.le_of_ble_eq_true rfl) rfl (fun x3_6 => [(0, .ref (ad E o)), (1, .int v1), (2, .int x2_5), (3, .int x3_6), (4, .int x4_1)]) (fun _ => rfl) h (fun x3_6 h => ?_)
          refine g_goto (tgt := 6) X dX0_purseBits_74 (by decide) ?_
          exact g_sub [0, 1, 2, 3] rfl h
        · refine g_aload_n X dX0_purseBits_52 rfl 0 rfl ?_
          refine g_iload X dX0_purseBits_53 4 rfl ?_
          refine cl_X0_124 X ho (by decide) (Nat.le_of_ble_eq_true rfl) dX0_purseBits_55 h (fun r7 M8 h => ?_)
          refine g_iconst (v := (-1)) X dX0_purseBits_58 (by decide) ?_
          refine g_ixor X dX0_purseBits_59 ?_
          refine g_goto (tgt := 69) X dX0_purseBits_60 (by decide) ?_
          refine g_iand X dX0_purseBits_69 ?_
          refine g_nm h (fun x2_9 h => ?_)
          refine g_istore_n (lv' := [(0, .ref (ad E o)), (1, .int v1), (2, .int x2_9), (3, .int v3), (4, .int x4_1)]) X dX0_purseBits_70 rfl (Nat.le_of_ble_eq_true rfl) rfl rfl ?_
          refine g_iinc (w := 1) X dX0_purseBits_71 3 rfl (by decide) (Nat.le_of_ble_eq_true rfl) rfl (fun x3_10 => [(0, .ref (ad E o)), (1, .int v1), (2, .int x2_9), (3, .int x3_10), (4, .int x4_1)]) (fun _ => rfl) h (fun x3_10 h => ?_)
          refine g_goto (tgt := 6) X dX0_purseBits_74 (by decide) ?_
          exact g_sub [0, 1, 2, 3] rfl h
theorem w_X0_purseBits (E : Ek) (l : Launch) {o : Nat} {v1 : Int32} (ho : Aff o) {M : Mem} {Post : Int32 → Mem → Prop} (h : wp_X0_purseBits Post M o v1) : ctI E l yX0_purseBits cX0_purseBits 5 (some .int) 4 [.ref (ad E o), .int v1] M Post := by
  refine ct_of (by decide) (Nat.le_of_ble_eq_true rfl) (fun x X hQ => ?_)
  have h := h (fun M v2 v3 => G E x M 6 [(0, .ref (ad E o)), (1, .int v1), (2, .int v2), (3, .int v3)] []) (fun M v2 v3 h => k_X0_purseBits_b6 X hQ ho h)
  change G E x M 0 [(0, .ref (ad E o)), (1, .int v1)] []
  refine g_sipush (v := 1023) X dX0_purseBits_0 (by decide) ?_
  refine g_istore_n (lv' := [(0, .ref (ad E o)), (1, .int v1), (2, .int 1023)]) X dX0_purseBits_3 rfl (Nat.le_of_ble_eq_true rfl) rfl rfl ?_
  refine g_iconst (v := 0) X dX0_purseBits_4 (by decide) ?_
  refine g_istore_n (lv' := [(0, .ref (ad E o)), (1, .int v1), (2, .int 1023), (3, .int 0)]) X dX0_purseBits_5 rfl (Nat.le_of_ble_eq_true rfl) rfl rfl ?_
  exact h
theorem cl_X0_127 {E : Ek} {x : MC} {cc : ByteArray} {nL hm pc : Nat} {M : Mem} {lv : List (Nat × Value)} {st : List Value} (X : Cx E x cc nL RX0 hm) {o : Nat} {v1 : Int32} (ho : Aff o) {Post : Int32 → Mem → Prop} (hr : 4 < hm) (hW : (st.map fun v => v.category).sum ≤ 8) (hd : decode cc pc = .ok (.invokevirtual 127, 3)) (h : wp_X0_purseBits Post M o v1) (kk : ∀ r M1, Post r M1 → G E x M1 (pc + 3) lv (.int r :: st)) : G E x M pc lv (.int v1 :: .ref (ad E o) :: st) := k_I (fun hP hS hL => run_V X (w_X0_purseBits E (xl x) ho h) cw_X0_purseBits m205 m206 m207 (af_oc ho) hr rfl hd hW hP hS hL) kk
theorem cl_X11_126 {E : Ek} {x : MC} {cc : ByteArray} {nL hm pc : Nat} {M : Mem} {lv : List (Nat × Value)} {st : List Value} (X : Cx E x cc nL RX11 hm) {o : Nat} {v1 : Int32} (ho : Aff o) {Post : Int32 → Mem → Prop} (hr : 4 < hm) (hW : (st.map fun v => v.category).sum ≤ 8) (hd : decode cc pc = .ok (.invokevirtual 126, 3)) (h : wp_X0_purseBits Post M o v1) (kk : ∀ r M1, Post r M1 → G E x M1 (pc + 3) lv (.int r :: st)) : G E x M pc lv (.int v1 :: .ref (ad E o) :: st) := k_I (fun hP hS hL => run_VN X (w_X0_purseBits E (xl x) ho h) cw_X0_purseBits m231 m206 m207 (af_oc ho) hr rfl hd hW hP hS hL) kk
theorem cw_J6_bitCount_0f7a4 : CW yJ6_bitCount_0f7a4 cJ6_bitCount_0f7a4 1 (some .int) 1 := ⟨m203, m204, Nat.le_of_ble_eq_true rfl, by decide +kernel⟩
def wp_J6_bitCount_0f7a4 (Post : Int32 → Mem → Prop) (M : Mem) (v0 : Int32) : Prop :=
 ∀ x0_1 : Int32, x0_1 = v0 - (((v0.toUInt32 >>> ((1 : Int32).toUInt32 &&& Int32.toUInt32 31)).toInt32) &&& 1431655765) →
 ∀ x0_2 : Int32, x0_2 = (x0_1 &&& 858993459) + (((x0_1.toUInt32 >>> ((2 : Int32).toUInt32 &&& Int32.toUInt32 31)).toInt32) &&& 858993459) →
 ∀ x0_3 : Int32, x0_3 = (x0_2 + ((x0_2.toUInt32 >>> ((4 : Int32).toUInt32 &&& Int32.toUInt32 31)).toInt32)) &&& 252645135 →
 ∀ x0_4 : Int32, x0_4 = x0_3 + ((x0_3.toUInt32 >>> ((8 : Int32).toUInt32 &&& Int32.toUInt32 31)).toInt32) →
 ∀ x0_5 : Int32, x0_5 = x0_4 + ((x0_4.toUInt32 >>> ((16 : Int32).toUInt32 &&& Int32.toUInt32 31)).toInt32) →
 Post (x0_5 &&& 63) M
theorem w_J6_bitCount_0f7a4 (E : Ek) (l : Launch) {v0 : Int32} {M : Mem} {Post : Int32 → Mem → Prop} (h : wp_J6_bitCount_0f7a4 Post M v0) : ctI E l yJ6_bitCount_0f7a4 cJ6_bitCount_0f7a4 1 (some .int) 1 [.int v0] M Post := by
  refine ct_of (by decide) (Nat.le_of_ble_eq_true rfl) (fun x X hQ => ?_)
  change G E x M 0 [(0, .int v0)] []
  refine g_iload_n X dJ6_bitCount_0f7a4_0 rfl 0 rfl ?_
  refine g_iload_n X dJ6_bitCount_0f7a4_1 rfl 0 rfl ?_
  refine g_iconst (v := 1) X dJ6_bitCount_0f7a4_2 (by decide) ?_
  refine g_iushr X dJ6_bitCount_0f7a4_3 ?_
  refine g_ldcw X dJ6_bitCount_0f7a4_4 m200 ?_
  refine g_iand X dJ6_bitCount_0f7a4_7 ?_
  refine g_isub X dJ6_bitCount_0f7a4_8 ?_
  refine g_nm h (fun x0_1 h => ?_)
  refine g_istore_n (lv' := [(0, .int x0_1)]) X dJ6_bitCount_0f7a4_9 rfl (Nat.le_of_ble_eq_true rfl) rfl rfl ?_
  refine g_iload_n X dJ6_bitCount_0f7a4_10 rfl 0 rfl ?_
  refine g_ldcw X dJ6_bitCount_0f7a4_11 m201 ?_
  refine g_iand X dJ6_bitCount_0f7a4_14 ?_
  refine g_iload_n X dJ6_bitCount_0f7a4_15 rfl 0 rfl ?_
  refine g_iconst (v := 2) X dJ6_bitCount_0f7a4_16 (by decide) ?_
  refine g_iushr X dJ6_bitCount_0f7a4_17 ?_
  refine g_ldcw X dJ6_bitCount_0f7a4_18 m201 ?_
  refine g_iand X dJ6_bitCount_0f7a4_21 ?_
  refine g_iadd X dJ6_bitCount_0f7a4_22 ?_
  refine g_nm h (fun x0_2 h => ?_)
  refine g_istore_n (lv' := [(0, .int x0_2)]) X dJ6_bitCount_0f7a4_23 rfl (Nat.le_of_ble_eq_true rfl) rfl rfl ?_
  refine g_iload_n X dJ6_bitCount_0f7a4_24 rfl 0 rfl ?_
  refine g_iload_n X dJ6_bitCount_0f7a4_25 rfl 0 rfl ?_
  refine g_iconst (v := 4) X dJ6_bitCount_0f7a4_26 (by decide) ?_
  refine g_iushr X dJ6_bitCount_0f7a4_27 ?_
  refine g_iadd X dJ6_bitCount_0f7a4_28 ?_
  refine g_ldcw X dJ6_bitCount_0f7a4_29 m202 ?_
  refine g_iand X dJ6_bitCount_0f7a4_32 ?_
  refine g_nm h (fun x0_3 h => ?_)
  refine g_istore_n (lv' := [(0, .int x0_3)]) X dJ6_bitCount_0f7a4_33 rfl (Nat.le_of_ble_eq_true rfl) rfl rfl ?_
  refine g_iload_n X dJ6_bitCount_0f7a4_34 rfl 0 rfl ?_
  refine g_iload_n X dJ6_bitCount_0f7a4_35 rfl 0 rfl ?_
  refine g_bipush (v := 8) X dJ6_bitCount_0f7a4_36 (by decide) ?_
  refine g_iushr X dJ6_bitCount_0f7a4_38 ?_
  refine g_iadd X dJ6_bitCount_0f7a4_39 ?_
  refine g_nm h (fun x0_4 h => ?_)
  refine g_istore_n (lv' := [(0, .int x0_4)]) X dJ6_bitCount_0f7a4_40 rfl (Nat.le_of_ble_eq_true rfl) rfl rfl ?_
  refine g_iload_n X dJ6_bitCount_0f7a4_41 rfl 0 rfl ?_
  refine g_iload_n X dJ6_bitCount_0f7a4_42 rfl 0 rfl ?_
  refine g_bipush (v := 16) X dJ6_bitCount_0f7a4_43 (by decide) ?_
  refine g_iushr X dJ6_bitCount_0f7a4_45 ?_
  refine g_iadd X dJ6_bitCount_0f7a4_46 ?_
  refine g_nm h (fun x0_5 h => ?_)
  refine g_istore_n (lv' := [(0, .int x0_5)]) X dJ6_bitCount_0f7a4_47 rfl (Nat.le_of_ble_eq_true rfl) rfl rfl ?_
  refine g_iload_n X dJ6_bitCount_0f7a4_48 rfl 0 rfl ?_
  refine g_bipush (v := 63) X dJ6_bitCount_0f7a4_49 (by decide) ?_
  refine g_iand X dJ6_bitCount_0f7a4_51 ?_
  exact g_iret X hQ dJ6_bitCount_0f7a4_52 h
theorem cl_X0_130 {E : Ek} {x : MC} {cc : ByteArray} {nL hm pc : Nat} {M : Mem} {lv : List (Nat × Value)} {st : List Value} (X : Cx E x cc nL RX0 hm) {v0 : Int32} {Post : Int32 → Mem → Prop} (hr : 1 < hm) (hW : (st.map fun v => v.category).sum ≤ 8) (hd : decode cc pc = .ok (.invokestatic 130, 3)) (h : wp_J6_bitCount_0f7a4 Post M v0) (kk : ∀ r M1, Post r M1 → G E x M1 (pc + 3) lv (.int r :: st)) : G E x M pc lv (.int v0 :: st) := k_I (fun hP hS hL => run_S X (w_J6_bitCount_0f7a4 E (xl x)  h) cw_J6_bitCount_0f7a4 m208 m209 hr rfl hd hW hP hS hL) kk
theorem cw_X0_debtToPress : CW yX0_debtToPress cX0_debtToPress 8 (some .int) 1 := ⟨m211, m144, Nat.le_of_ble_eq_true rfl, by decide +kernel⟩
def wp_X0_debtToPress_b15 (Post : Int32 → Mem → Prop) (o : Nat) (v1 : Int32) (P15 : Mem → Int32 → Int32 → Int32 → Int32 → Prop) (M : Mem) (v2 : Int32) (v3 : Int32) (v4 : Int32) (v5 : Int32) : Prop :=
 ((rd M 3 3) ≤ v5 →
  Post v3 M) ∧
 (¬ (rd M 3 3) ≤ v5 →
  (v2 = 0 →
   Post v3 M) ∧
  (¬ v2 = 0 →
   vp_in v5 4 ∧
   ((rd M 8 v5.toNatClampNeg) = v1 →
    wp_X0_tooPoorBits (fun r3 M4 =>
     wp_J6_bitCount_0f7a4 (fun r5 M6 =>
      wp_J6_bitCount_0f7a4 (fun r7 M8 =>
       ∀ x7_9 : Int32, x7_9 = (if r5 < (r7 - r5) then (r7 - r5) else r5) →
       (v4 ≤ x7_9 →
        ∀ x5_10 : Int32, x5_10 = v5 + 1 →
        P15 M8 v2 v3 v4 x5_10) ∧
       (¬ v4 ≤ x7_9 →
        ∀ x5_11 : Int32, x5_11 = v5 + 1 →
        P15 M8 v2 v5 x7_9 x5_11)) M6 v2) M4 (v2 &&& r3)) M o v5) ∧
   (¬ (rd M 8 v5.toNatClampNeg) = v1 →
    ∀ x5_12 : Int32, x5_12 = v5 + 1 →
    P15 M v2 v3 v4 x5_12)))
def wp_X0_debtToPress (Post : Int32 → Mem → Prop) (M : Mem) (o : Nat) (v1 : Int32) : Prop :=
 ∀ (P15 : Mem → Int32 → Int32 → Int32 → Int32 → Prop) ,
  (∀ (M : Mem) (v2 : Int32) (v3 : Int32) (v4 : Int32) (v5 : Int32), wp_X0_debtToPress_b15 Post o v1 P15 M v2 v3 v4 v5 → P15 M v2 v3 v4 v5) →
 wp_X0_purseBits (fun r1 M2 =>
  P15 M2 r1 (-1) 11 0) M o v1
theorem k_X0_debtToPress_b15 {E : Ek} {x : MC} (X : Cx E x cX0_debtToPress 8 RX0 5) {Post : Int32 → Mem → Prop} (hQ : QI E x Post (some .int)) {o : Nat} {v1 : Int32} (ho : Aff o) {M : Mem} {v2 : Int32} {v3 : Int32} {v4 : Int32} {v5 : Int32} (h : wp_X0_debtToPress_b15 Post o v1 (fun M v2 v3 v4 v5 => G E x M 15 [(0, .ref (ad E o)), (1, .int v1), (2, .int v2), (3, .int v3), (4, .int v4), (5, .int v5)] []) M v2 v3 v4 v5) : G E x M 15 [(0, .ref (ad E o)), (1, .int v1), (2, .int v2), (3, .int v3), (4, .int v4), (5, .int v5)] [] := by
  refine g_iload X dX0_debtToPress_15 5 rfl ?_
  refine g_aload_n X dX0_debtToPress_17 rfl 0 rfl ?_
  refine fg_X0_34 X ho dX0_debtToPress_18 ?_
  refine fg_X0_95 X dX0_debtToPress_21 ?_
  refine g_icmpge (tgt := 95) X dX0_debtToPress_24 (by decide) h (fun h => ?_) (fun h => ?_)
  · refine g_iload_n X dX0_debtToPress_95 rfl 3 rfl ?_
    exact g_iret X hQ dX0_debtToPress_96 h
  · refine g_iload_n X dX0_debtToPress_27 rfl 2 rfl ?_
    refine g_ifeq (tgt := 95) X dX0_debtToPress_28 (by decide) h (fun h => ?_) (fun h => ?_)
    · refine g_iload_n X dX0_debtToPress_95 rfl 3 rfl ?_
      exact g_iret X hQ dX0_debtToPress_96 h
    · refine g_aload_n X dX0_debtToPress_31 rfl 0 rfl ?_
      refine fg_X0_34 X ho dX0_debtToPress_32 ?_
      refine fg_X0_71 X dX0_debtToPress_35 ?_
      refine g_iload X dX0_debtToPress_38 5 rfl ?_
      refine g_iald X ia_8 dX0_debtToPress_40 h (fun h => ?_)
      refine g_iload_n X dX0_debtToPress_41 rfl 1 rfl ?_
      refine g_icmpeq (tgt := 48) X dX0_debtToPress_42 (by decide) h (fun h => ?_) (fun h => ?_)
      · refine g_iload_n X dX0_debtToPress_48 rfl 2 rfl ?_
        refine g_aload_n X dX0_debtToPress_49 rfl 0 rfl ?_
        refine g_iload X dX0_debtToPress_50 5 rfl ?_
        refine cl_X0_124 X ho (by decide) (Nat.le_of_ble_eq_true rfl) dX0_debtToPress_52 h (fun r3 M4 h => ?_)
        refine g_iand X dX0_debtToPress_55 ?_
        refine cl_X0_130 X (by decide) (Nat.le_of_ble_eq_true rfl) dX0_debtToPress_56 h (fun r5 M6 h => ?_)
        refine g_istore (lv' := [(0, .ref (ad E o)), (1, .int v1), (2, .int v2), (3, .int v3), (4, .int v4), (5, .int v5), (6, .int r5)]) X dX0_debtToPress_59 (Nat.le_of_ble_eq_true rfl) rfl rfl ?_
        refine g_iload X dX0_debtToPress_61 6 rfl ?_
        refine g_iload_n X dX0_debtToPress_63 rfl 2 rfl ?_
        refine cl_X0_130 X (by decide) (Nat.le_of_ble_eq_true rfl) dX0_debtToPress_64 h (fun r7 M8 h => ?_)
        refine g_iload X dX0_debtToPress_67 6 rfl ?_
        refine g_isub X dX0_debtToPress_69 ?_
        refine g_mmax X dX0_debtToPress_70 ma210 ma46 ma48 ma47 (Nat.le_of_ble_eq_true rfl) (Nat.le_of_ble_eq_true rfl) ?_
        refine g_nm h (fun x7_9 h => ?_)
        refine g_istore (lv' := [(0, .ref (ad E o)), (1, .int v1), (2, .int v2), (3, .int v3), (4, .int v4), (5, .int v5), (6, .int r5), (7, .int x7_9)]) X dX0_debtToPress_73 (Nat.le_of_ble_eq_true rfl) rfl rfl ?_
        refine g_iload X dX0_debtToPress_75 7 rfl ?_
        refine g_iload X dX0_debtToPress_77 4 rfl ?_
        refine g_icmpge (tgt := 89) X dX0_debtToPress_79 (by decide) h (fun h => ?_) (fun h => ?_)
        · refine g_iinc (w := 1) X dX0_debtToPress_89 5 rfl (by decide) (Nat.le_of_ble_eq_true rfl) rfl (fun x5_10 => [(0, .ref (ad E o)), (1, .int v1), (2, .int v2), (3, .int v3), (4, .int v4), (5, .int x5_10), (6, .int r5), (7, .int x7_9)]) (fun _ => rfl) h (fun x5_10 h => ?_)
          refine g_goto (tgt := 15) X dX0_debtToPress_92 (by decide) ?_
          exact g_sub [0, 1, 2, 3, 4, 5] rfl h
        · refine g_iload X dX0_debtToPress_82 7 rfl ?_
          refine g_istore (lv' := [(0, .ref (ad E o)), (1, .int v1), (2, .int v2), (3, .int v3), (4, .int x7_9), (5, .int v5), (6, .int r5), (7, .int x7_9)]) X dX0_debtToPress_84 (Nat.le_of_ble_eq_true rfl) rfl rfl ?_
          refine g_iload X dX0_debtToPress_86 5 rfl ?_
          refine g_istore_n (lv' := [(0, .ref (ad E o)), (1, .int v1), (2, .int v2), (3, .int v5), (4, .int x7_9), (5, .int v5), (6, .int r5), (7, .int x7_9)]) X dX0_debtToPress_88 rfl (Nat.le_of_ble_eq_true rfl) rfl rfl ?_
          refine g_iinc (w := 1) X dX0_debtToPress_89 5 rfl (by decide) (Nat.le_of_ble_eq_true rfl) rfl (fun x5_11 => [(0, .ref (ad E o)), (1, .int v1), (2, .int v2), (3, .int v5), (4, .int x7_9), (5, .int x5_11), (6, .int r5), (7, .int x7_9)]) (fun _ => rfl) h (fun x5_11 h => ?_)
          refine g_goto (tgt := 15) X dX0_debtToPress_92 (by decide) ?_
          exact g_sub [0, 1, 2, 3, 4, 5] rfl h
      · refine g_goto (tgt := 89) X dX0_debtToPress_45 (by decide) ?_
        refine g_iinc (w := 1) X dX0_debtToPress_89 5 rfl (by decide) (Nat.le_of_ble_eq_true rfl) rfl (fun x5_12 => [(0, .ref (ad E o)), (1, .int v1), (2, .int v2), (3, .int v3), (4, .int v4), (5, .int x5_12)]) (fun _ => rfl) h (fun x5_12 h => ?_)
        refine g_goto (tgt := 15) X dX0_debtToPress_92 (by decide) ?_
        exact h
theorem w_X0_debtToPress (E : Ek) (l : Launch) {o : Nat} {v1 : Int32} (ho : Aff o) {M : Mem} {Post : Int32 → Mem → Prop} (h : wp_X0_debtToPress Post M o v1) : ctI E l yX0_debtToPress cX0_debtToPress 8 (some .int) 5 [.ref (ad E o), .int v1] M Post := by
  refine ct_of (by decide) (Nat.le_of_ble_eq_true rfl) (fun x X hQ => ?_)
  have h := h (fun M v2 v3 v4 v5 => G E x M 15 [(0, .ref (ad E o)), (1, .int v1), (2, .int v2), (3, .int v3), (4, .int v4), (5, .int v5)] []) (fun M v2 v3 v4 v5 h => k_X0_debtToPress_b15 X hQ ho h)
  change G E x M 0 [(0, .ref (ad E o)), (1, .int v1)] []
  refine g_aload_n X dX0_debtToPress_0 rfl 0 rfl ?_
  refine g_iload_n X dX0_debtToPress_1 rfl 1 rfl ?_
  refine cl_X0_127 X ho (by decide) (Nat.le_of_ble_eq_true rfl) dX0_debtToPress_2 h (fun r1 M2 h => ?_)
  refine g_istore_n (lv' := [(0, .ref (ad E o)), (1, .int v1), (2, .int r1)]) X dX0_debtToPress_5 rfl (Nat.le_of_ble_eq_true rfl) rfl rfl ?_
  refine g_iconst (v := (-1)) X dX0_debtToPress_6 (by decide) ?_
  refine g_istore_n (lv' := [(0, .ref (ad E o)), (1, .int v1), (2, .int r1), (3, .int (-1))]) X dX0_debtToPress_7 rfl (Nat.le_of_ble_eq_true rfl) rfl rfl ?_
  refine g_bipush (v := 11) X dX0_debtToPress_8 (by decide) ?_
  refine g_istore (lv' := [(0, .ref (ad E o)), (1, .int v1), (2, .int r1), (3, .int (-1)), (4, .int 11)]) X dX0_debtToPress_10 (Nat.le_of_ble_eq_true rfl) rfl rfl ?_
  refine g_iconst (v := 0) X dX0_debtToPress_12 (by decide) ?_
  refine g_istore (lv' := [(0, .ref (ad E o)), (1, .int v1), (2, .int r1), (3, .int (-1)), (4, .int 11), (5, .int 0)]) X dX0_debtToPress_13 (Nat.le_of_ble_eq_true rfl) rfl rfl ?_
  exact h
theorem cl_X11_129 {E : Ek} {x : MC} {cc : ByteArray} {nL hm pc : Nat} {M : Mem} {lv : List (Nat × Value)} {st : List Value} (X : Cx E x cc nL RX11 hm) {o : Nat} {v1 : Int32} (ho : Aff o) {Post : Int32 → Mem → Prop} (hr : 5 < hm) (hW : (st.map fun v => v.category).sum ≤ 8) (hd : decode cc pc = .ok (.invokevirtual 129, 3)) (h : wp_X0_debtToPress Post M o v1) (kk : ∀ r M1, Post r M1 → G E x M1 (pc + 3) lv (.int r :: st)) : G E x M pc lv (.int v1 :: .ref (ad E o) :: st) := k_I (fun hP hS hL => run_VN X (w_X0_debtToPress E (xl x) ho h) cw_X0_debtToPress m232 m233 m234 (af_oc ho) hr rfl hd hW hP hS hL) kk
theorem cw_X11_person : CW yX11_person cX11_person 3 (some .int) 2 := ⟨m235, m10, Nat.le_of_ble_eq_true rfl, by decide +kernel⟩
def wp_X11_person (Post : Int32 → Mem → Prop) (M : Mem) (v1 : Int32) (v2 : Int32) : Prop :=
 wp_X11_isNobody (fun r1 M2 =>
  (r1 = 0 →
   (v2 = 0 →
    vp_in v1 4 ∧
    wpv_number (fun r3 M4 =>
     Post r3 M4) M2 (11 + v1.toNatClampNeg) ) ∧
   (v2 = 1 →
    vp_in v1 4 ∧
    Post (rd M2 60 v1.toNatClampNeg) M2) ∧
   (v2 = 2 →
    vp_in v1 4 ∧
    Post (rd M2 61 v1.toNatClampNeg) M2) ∧
   (v2 = 3 →
    wp_X0_keyBits (fun r5 M6 =>
     Post r5 M6) M2 59 v1) ∧
   (v2 = 4 →
    wp_X0_doorBits (fun r7 M8 =>
     Post r7 M8) M2 59 v1) ∧
   (v2 = 5 →
    wp_X0_payableBits (fun r9 M10 =>
     Post r9 M10) M2 59 v1) ∧
   (v2 = 6 →
    wp_X0_standing (fun r11 M12 =>
     Post r11 M12) M2 59 v1) ∧
   (v2 = 7 →
    wp_X0_purseBits (fun r13 M14 =>
     Post r13 M14) M2 59 v1) ∧
   (v2 = 8 →
    wp_X0_debtToPress (fun r15 M16 =>
     Post r15 M16) M2 59 v1) ∧
   (¬ v2 = 0 → ¬ v2 = 1 → ¬ v2 = 2 → ¬ v2 = 3 → ¬ v2 = 4 → ¬ v2 = 5 → ¬ v2 = 6 → ¬ v2 = 7 → ¬ v2 = 8 → 
    Post (-102) M2)) ∧
  (¬ r1 = 0 →
   Post (-101) M2)) M v1
theorem w_X11_person (E : Ek) (l : Launch) {v1 : Int32} {v2 : Int32} {M : Mem} {Post : Int32 → Mem → Prop} (h : wp_X11_person Post M v1 v2) : ctI E l yX11_person cX11_person 3 (some .int) 6 [.ref (ad E 0), .int v1, .int v2] M Post := by
  refine ct_of (by decide) (Nat.le_of_ble_eq_true rfl) (fun x X hQ => ?_)
  change G E x M 0 [(0, .ref (ad E 0)), (1, .int v1), (2, .int v2)] []
  refine g_aload_n X dX11_person_0 rfl 0 rfl ?_
  refine g_iload_n X dX11_person_1 rfl 1 rfl ?_
  refine cl_X11_93 X (by decide) (Nat.le_of_ble_eq_true rfl) dX11_person_2 h (fun r1 M2 h => ?_)
  refine g_ifeq (tgt := 11) X dX11_person_5 (by decide) h (fun h => ?_) (fun h => ?_)
  · refine g_iload_n X dX11_person_11 rfl 2 rfl ?_
    by_cases c0 : v2 = 0
    · have h := h.1 c0
      refine g_tabI (tgt := 64) X dX11_person_12 c0 ⟨⟨by decide, by decide⟩, rfl⟩ (by decide) ?_
      refine g_aload_n X dX11_person_64 rfl 0 rfl ?_
      refine fg_X11_19 X dX11_person_65 ?_
      refine fg_X11_96 X dX11_person_68 ?_
      refine g_iload_n X dX11_person_71 rfl 1 rfl ?_
      refine g_pald X dX11_person_72 h (fun hi1 h => ?_)
      refine cv_X11_100 X (prs_of hi1) (by decide) (Nat.le_of_ble_eq_true rfl) dX11_person_73 h (fun r3 M4 h => ?_)
      exact g_iret X hQ dX11_person_76 h
    by_cases c1 : v2 = 1
    · have h := h.2.1 c1
      refine g_tabI (tgt := 77) X dX11_person_12 c1 ⟨⟨by decide, by decide⟩, rfl⟩ (by decide) ?_
      refine g_aload_n X dX11_person_77 rfl 0 rfl ?_
      refine fg_X11_28 X dX11_person_78 ?_
      refine fg_X11_106 X aff_59 dX11_person_81 ?_
      refine g_iload_n X dX11_person_84 rfl 1 rfl ?_
      refine g_iald X (af_ia1 aff_59) dX11_person_85 h (fun h => ?_)
      exact g_iret X hQ dX11_person_86 h
    by_cases c2 : v2 = 2
    · have h := h.2.2.1 c2
      refine g_tabI (tgt := 87) X dX11_person_12 c2 ⟨⟨by decide, by decide⟩, rfl⟩ (by decide) ?_
      refine g_aload_n X dX11_person_87 rfl 0 rfl ?_
      refine fg_X11_28 X dX11_person_88 ?_
      refine fg_X11_110 X aff_59 dX11_person_91 ?_
      refine g_iload_n X dX11_person_94 rfl 1 rfl ?_
      refine g_iald X (af_ia2 aff_59) dX11_person_95 h (fun h => ?_)
      exact g_iret X hQ dX11_person_96 h
    by_cases c3 : v2 = 3
    · have h := h.2.2.2.1 c3
      refine g_tabI (tgt := 97) X dX11_person_12 c3 ⟨⟨by decide, by decide⟩, rfl⟩ (by decide) ?_
      refine g_aload_n X dX11_person_97 rfl 0 rfl ?_
      refine fg_X11_28 X dX11_person_98 ?_
      refine g_iload_n X dX11_person_101 rfl 1 rfl ?_
      refine cl_X11_113 X aff_59 (by decide) (Nat.le_of_ble_eq_true rfl) dX11_person_102 h (fun r5 M6 h => ?_)
      exact g_iret X hQ dX11_person_105 h
    by_cases c4 : v2 = 4
    · have h := h.2.2.2.2.1 c4
      refine g_tabI (tgt := 106) X dX11_person_12 c4 ⟨⟨by decide, by decide⟩, rfl⟩ (by decide) ?_
      refine g_aload_n X dX11_person_106 rfl 0 rfl ?_
      refine fg_X11_28 X dX11_person_107 ?_
      refine g_iload_n X dX11_person_110 rfl 1 rfl ?_
      refine cl_X11_117 X aff_59 (by decide) (Nat.le_of_ble_eq_true rfl) dX11_person_111 h (fun r7 M8 h => ?_)
      exact g_iret X hQ dX11_person_114 h
    by_cases c5 : v2 = 5
    · have h := h.2.2.2.2.2.1 c5
      refine g_tabI (tgt := 115) X dX11_person_12 c5 ⟨⟨by decide, by decide⟩, rfl⟩ (by decide) ?_
      refine g_aload_n X dX11_person_115 rfl 0 rfl ?_
      refine fg_X11_28 X dX11_person_116 ?_
      refine g_iload_n X dX11_person_119 rfl 1 rfl ?_
      refine cl_X11_120 X aff_59 (by decide) (Nat.le_of_ble_eq_true rfl) dX11_person_120 h (fun r9 M10 h => ?_)
      exact g_iret X hQ dX11_person_123 h
    by_cases c6 : v2 = 6
    · have h := h.2.2.2.2.2.2.1 c6
      refine g_tabI (tgt := 124) X dX11_person_12 c6 ⟨⟨by decide, by decide⟩, rfl⟩ (by decide) ?_
      refine g_aload_n X dX11_person_124 rfl 0 rfl ?_
      refine fg_X11_28 X dX11_person_125 ?_
      refine g_iload_n X dX11_person_128 rfl 1 rfl ?_
      refine cl_X11_123 X aff_59 (by decide) (Nat.le_of_ble_eq_true rfl) dX11_person_129 h (fun r11 M12 h => ?_)
      exact g_iret X hQ dX11_person_132 h
    by_cases c7 : v2 = 7
    · have h := h.2.2.2.2.2.2.2.1 c7
      refine g_tabI (tgt := 133) X dX11_person_12 c7 ⟨⟨by decide, by decide⟩, rfl⟩ (by decide) ?_
      refine g_aload_n X dX11_person_133 rfl 0 rfl ?_
      refine fg_X11_28 X dX11_person_134 ?_
      refine g_iload_n X dX11_person_137 rfl 1 rfl ?_
      refine cl_X11_126 X aff_59 (by decide) (Nat.le_of_ble_eq_true rfl) dX11_person_138 h (fun r13 M14 h => ?_)
      exact g_iret X hQ dX11_person_141 h
    by_cases c8 : v2 = 8
    · have h := h.2.2.2.2.2.2.2.2.1 c8
      refine g_tabI (tgt := 142) X dX11_person_12 c8 ⟨⟨by decide, by decide⟩, rfl⟩ (by decide) ?_
      refine g_aload_n X dX11_person_142 rfl 0 rfl ?_
      refine fg_X11_28 X dX11_person_143 ?_
      refine g_iload_n X dX11_person_146 rfl 1 rfl ?_
      refine cl_X11_129 X aff_59 (by decide) (Nat.le_of_ble_eq_true rfl) dX11_person_147 h (fun r15 M16 h => ?_)
      exact g_iret X hQ dX11_person_150 h
    have h := h.2.2.2.2.2.2.2.2.2 c0 c1 c2 c3 c4 c5 c6 c7 c8
    refine g_tabO (tgt := 151) X dX11_person_12 (by have e0 := lv_neT (a := 0) c0 (by decide); have e1 := lv_neT (a := 1) c1 (by decide); have e2 := lv_neT (a := 2) c2 (by decide); have e3 := lv_neT (a := 3) c3 (by decide); have e4 := lv_neT (a := 4) c4 (by decide); have e5 := lv_neT (a := 5) c5 (by decide); have e6 := lv_neT (a := 6) c6 (by decide); have e7 := lv_neT (a := 7) c7 (by decide); have e8 := lv_neT (a := 8) c8 (by decide); omega) (by decide) ?_
    refine g_bipush (v := (-102)) X dX11_person_151 (by decide) ?_
    exact g_iret X hQ dX11_person_153 h
  · refine g_bipush (v := (-101)) X dX11_person_8 (by decide) ?_
    exact g_iret X hQ dX11_person_10 h
theorem cl_X11_298 {E : Ek} {x : MC} {cc : ByteArray} {nL hm pc : Nat} {M : Mem} {lv : List (Nat × Value)} {st : List Value} (X : Cx E x cc nL RX11 hm) {v1 : Int32} {v2 : Int32} {Post : Int32 → Mem → Prop} (hr : 6 < hm) (hW : (st.map fun v => v.category).sum ≤ 8) (hd : decode cc pc = .ok (.invokevirtual 298, 3)) (h : wp_X11_person Post M v1 v2) (kk : ∀ r M1, Post r M1 → G E x M1 (pc + 3) lv (.int r :: st)) : G E x M pc lv (.int v2 :: .int v1 :: .ref (ad E 0) :: st) := k_I (fun hP hS hL => run_V X (w_X11_person E (xl x)  h) cw_X11_person m465 m466 m467 (⟨by decide, fun E f h => ⟨_, _, _, rfl, rfl, rfl⟩⟩ : OC 0 RX11) hr rfl hd hW hP hS hL) kk
theorem cw_X4_isOfKind : CW yX4_isOfKind cX4_isOfKind 4 (some .boolean) 2 := ⟨m237, m148, Nat.le_of_ble_eq_true rfl, by decide +kernel⟩
def wp_X4_isOfKind (Post : Int32 → Mem → Prop) (M : Mem) (v1 : Int32) (v2 : Int32) : Prop :=
 vp_in v1 4 ∧
 (v2 = 0 →
  Post 1 M) ∧
 (v2 = 1 →
  zb (ins_X8 (rd M (11 + v1.toNatClampNeg) 0)) ∧ Post (ins_X8 (rd M (11 + v1.toNatClampNeg) 0)) M) ∧
 (v2 = 2 →
  zb (ins_X1 (rd M (11 + v1.toNatClampNeg) 0)) ∧ Post (ins_X1 (rd M (11 + v1.toNatClampNeg) 0)) M) ∧
 (v2 = 3 →
  zb (ins_X3 (rd M (11 + v1.toNatClampNeg) 0)) ∧ Post (ins_X3 (rd M (11 + v1.toNatClampNeg) 0)) M) ∧
 (¬ v2 = 0 → ¬ v2 = 1 → ¬ v2 = 2 → ¬ v2 = 3 → 
  zb (ins_X2 (rd M (11 + v1.toNatClampNeg) 0)) ∧ Post (ins_X2 (rd M (11 + v1.toNatClampNeg) 0)) M)
theorem w_X4_isOfKind (E : Ek) (l : Launch) {v1 : Int32} {v2 : Int32} {M : Mem} {Post : Int32 → Mem → Prop} (h : wp_X4_isOfKind Post M v1 v2) : ctI E l yX4_isOfKind cX4_isOfKind 4 (some .boolean) 1 [.ref (ad E 3), .int v1, .int v2] M Post := by
  refine ct_of (by decide) (Nat.le_of_ble_eq_true rfl) (fun x X hQ => ?_)
  change G E x M 0 [(0, .ref (ad E 3)), (1, .int v1), (2, .int v2)] []
  refine g_aload_n X dX4_isOfKind_0 rfl 0 rfl ?_
  refine fg_X4_23 X dX4_isOfKind_1 ?_
  refine g_iload_n X dX4_isOfKind_4 rfl 1 rfl ?_
  refine g_pald X dX4_isOfKind_5 h (fun hi1 h => ?_)
  refine g_astore_n (lv' := [(0, .ref (ad E 3)), (1, .int v1), (2, .int v2), (3, .ref (ad E (11 + v1.toNatClampNeg)))]) X dX4_isOfKind_6 rfl (Nat.le_of_ble_eq_true rfl) rfl rfl ?_
  refine g_iload_n X dX4_isOfKind_7 rfl 2 rfl ?_
  by_cases c0 : v2 = 0
  · have h := h.1 c0
    refine g_tabI (tgt := 40) X dX4_isOfKind_8 c0 ⟨⟨by decide, by decide⟩, rfl⟩ (by decide) ?_
    refine g_iconst (v := 1) X dX4_isOfKind_40 (by decide) ?_
    exact g_zret X hQ dX4_isOfKind_41 ⟨Or.inr rfl, h⟩
  by_cases c1 : v2 = 1
  · have h := h.2.1 c1
    refine g_tabI (tgt := 42) X dX4_isOfKind_8 c1 ⟨⟨by decide, by decide⟩, rfl⟩ (by decide) ?_
    refine g_aload_n X dX4_isOfKind_42 rfl 3 rfl ?_
    refine gi_X8 X (prs_of hi1) dX4_isOfKind_43 ?_
    exact g_zret X hQ dX4_isOfKind_46 h
  by_cases c2 : v2 = 2
  · have h := h.2.2.1 c2
    refine g_tabI (tgt := 47) X dX4_isOfKind_8 c2 ⟨⟨by decide, by decide⟩, rfl⟩ (by decide) ?_
    refine g_aload_n X dX4_isOfKind_47 rfl 3 rfl ?_
    refine gi_X1 X (prs_of hi1) dX4_isOfKind_48 ?_
    exact g_zret X hQ dX4_isOfKind_51 h
  by_cases c3 : v2 = 3
  · have h := h.2.2.2.1 c3
    refine g_tabI (tgt := 52) X dX4_isOfKind_8 c3 ⟨⟨by decide, by decide⟩, rfl⟩ (by decide) ?_
    refine g_aload_n X dX4_isOfKind_52 rfl 3 rfl ?_
    refine gi_X3 X (prs_of hi1) dX4_isOfKind_53 ?_
    exact g_zret X hQ dX4_isOfKind_56 h
  have h := h.2.2.2.2 c0 c1 c2 c3
  refine g_tabO (tgt := 57) X dX4_isOfKind_8 (by have e0 := lv_neT (a := 0) c0 (by decide); have e1 := lv_neT (a := 1) c1 (by decide); have e2 := lv_neT (a := 2) c2 (by decide); have e3 := lv_neT (a := 3) c3 (by decide); omega) (by decide) ?_
  refine g_aload_n X dX4_isOfKind_57 rfl 3 rfl ?_
  refine gi_X2 X (prs_of hi1) dX4_isOfKind_58 ?_
  exact g_zret X hQ dX4_isOfKind_61 h
theorem cl_X11_132 {E : Ek} {x : MC} {cc : ByteArray} {nL hm pc : Nat} {M : Mem} {lv : List (Nat × Value)} {st : List Value} (X : Cx E x cc nL RX11 hm) {v1 : Int32} {v2 : Int32} {Post : Int32 → Mem → Prop} (hr : 1 < hm) (hW : (st.map fun v => v.category).sum ≤ 8) (hd : decode cc pc = .ok (.invokevirtual 132, 3)) (h : wp_X4_isOfKind Post M v1 v2) (kk : ∀ r M1, Post r M1 → G E x M1 (pc + 3) lv (.int r :: st)) : G E x M pc lv (.int v2 :: .int v1 :: .ref (ad E 3) :: st) := k_I (fun hP hS hL => run_VN X (w_X4_isOfKind E (xl x)  h) cw_X4_isOfKind m238 m239 m240 (⟨by decide, fun E f h => ⟨_, _, _, rfl, rfl, rfl⟩⟩ : OC 3 RX4) hr rfl hd hW hP hS hL) kk
theorem cw_X11_as : CW yX11_as cX11_as 3 (some .int) 2 := ⟨m241, m10, Nat.le_of_ble_eq_true rfl, by decide +kernel⟩
def wp_X11_as (Post : Int32 → Mem → Prop) (M : Mem) (v1 : Int32) (v2 : Int32) : Prop :=
 wp_X11_isNobody (fun r1 M2 =>
  (r1 = 0 →
   (v2 < 0 →
    Post (-102) M2) ∧
   (¬ v2 < 0 →
    (v2 ≤ 4 →
     wp_X4_isOfKind (fun r3 M4 =>
      (r3 = 0 →
       Post (-1) M4) ∧
      (¬ r3 = 0 →
       Post v1 M4)) M2 v1 v2) ∧
    (¬ v2 ≤ 4 →
     Post (-102) M2))) ∧
  (¬ r1 = 0 →
   Post (-101) M2)) M v1
theorem w_X11_as (E : Ek) (l : Launch) {v1 : Int32} {v2 : Int32} {M : Mem} {Post : Int32 → Mem → Prop} (h : wp_X11_as Post M v1 v2) : ctI E l yX11_as cX11_as 3 (some .int) 2 [.ref (ad E 0), .int v1, .int v2] M Post := by
  refine ct_of (by decide) (Nat.le_of_ble_eq_true rfl) (fun x X hQ => ?_)
  change G E x M 0 [(0, .ref (ad E 0)), (1, .int v1), (2, .int v2)] []
  refine g_aload_n X dX11_as_0 rfl 0 rfl ?_
  refine g_iload_n X dX11_as_1 rfl 1 rfl ?_
  refine cl_X11_93 X (by decide) (Nat.le_of_ble_eq_true rfl) dX11_as_2 h (fun r1 M2 h => ?_)
  refine g_ifeq (tgt := 11) X dX11_as_5 (by decide) h (fun h => ?_) (fun h => ?_)
  · refine g_iload_n X dX11_as_11 rfl 2 rfl ?_
    refine g_iflt (tgt := 20) X dX11_as_12 (by decide) h (fun h => ?_) (fun h => ?_)
    · refine g_bipush (v := (-102)) X dX11_as_20 (by decide) ?_
      exact g_iret X hQ dX11_as_22 h
    · refine g_iload_n X dX11_as_15 rfl 2 rfl ?_
      refine g_iconst (v := 4) X dX11_as_16 (by decide) ?_
      refine g_icmple (tgt := 23) X dX11_as_17 (by decide) h (fun h => ?_) (fun h => ?_)
      · refine g_aload_n X dX11_as_23 rfl 0 rfl ?_
        refine fg_X11_19 X dX11_as_24 ?_
        refine g_iload_n X dX11_as_27 rfl 1 rfl ?_
        refine g_iload_n X dX11_as_28 rfl 2 rfl ?_
        refine cl_X11_132 X (by decide) (Nat.le_of_ble_eq_true rfl) dX11_as_29 h (fun r3 M4 h => ?_)
        refine g_ifeq (tgt := 39) X dX11_as_32 (by decide) h (fun h => ?_) (fun h => ?_)
        · refine g_iconst (v := (-1)) X dX11_as_39 (by decide) ?_
          exact g_iret X hQ dX11_as_40 h
        · refine g_iload_n X dX11_as_35 rfl 1 rfl ?_
          refine g_goto (tgt := 40) X dX11_as_36 (by decide) ?_
          exact g_iret X hQ dX11_as_40 h
      · refine g_bipush (v := (-102)) X dX11_as_20 (by decide) ?_
        exact g_iret X hQ dX11_as_22 h
  · refine g_bipush (v := (-101)) X dX11_as_8 (by decide) ?_
    exact g_iret X hQ dX11_as_10 h
theorem cw_X11_isNoDoor : CW yX11_isNoDoor cX11_isNoDoor 2 (some .boolean) 1 := ⟨m243, m10, Nat.le_of_ble_eq_true rfl, by decide +kernel⟩
def wp_X11_isNoDoor (Post : Int32 → Mem → Prop) (M : Mem) (v1 : Int32) : Prop :=
 (v1 < 0 →
  Post 1 M) ∧
 (¬ v1 < 0 →
  (v1 < (rd M 3 1) →
   Post 0 M) ∧
  (¬ v1 < (rd M 3 1) →
   Post 1 M))
theorem w_X11_isNoDoor (E : Ek) (l : Launch) {v1 : Int32} {M : Mem} {Post : Int32 → Mem → Prop} (h : wp_X11_isNoDoor Post M v1) : ctI E l yX11_isNoDoor cX11_isNoDoor 2 (some .boolean) 1 [.ref (ad E 0), .int v1] M Post := by
  refine ct_of (by decide) (Nat.le_of_ble_eq_true rfl) (fun x X hQ => ?_)
  change G E x M 0 [(0, .ref (ad E 0)), (1, .int v1)] []
  refine g_iload_n X dX11_isNoDoor_0 rfl 1 rfl ?_
  refine g_iflt (tgt := 15) X dX11_isNoDoor_1 (by decide) h (fun h => ?_) (fun h => ?_)
  · refine g_iconst (v := 1) X dX11_isNoDoor_15 (by decide) ?_
    refine g_goto (tgt := 20) X dX11_isNoDoor_16 (by decide) ?_
    exact g_zret X hQ dX11_isNoDoor_20 ⟨Or.inr rfl, h⟩
  · refine g_iload_n X dX11_isNoDoor_4 rfl 1 rfl ?_
    refine g_aload_n X dX11_isNoDoor_5 rfl 0 rfl ?_
    refine fg_X11_19 X dX11_isNoDoor_6 ?_
    refine fg_X11_241 X dX11_isNoDoor_9 ?_
    refine g_icmplt (tgt := 19) X dX11_isNoDoor_12 (by decide) h (fun h => ?_) (fun h => ?_)
    · refine g_iconst (v := 0) X dX11_isNoDoor_19 (by decide) ?_
      exact g_zret X hQ dX11_isNoDoor_20 ⟨Or.inl rfl, h⟩
    · refine g_iconst (v := 1) X dX11_isNoDoor_15 (by decide) ?_
      refine g_goto (tgt := 20) X dX11_isNoDoor_16 (by decide) ?_
      exact g_zret X hQ dX11_isNoDoor_20 ⟨Or.inr rfl, h⟩
theorem cl_X11_136 {E : Ek} {x : MC} {cc : ByteArray} {nL hm pc : Nat} {M : Mem} {lv : List (Nat × Value)} {st : List Value} (X : Cx E x cc nL RX11 hm) {v1 : Int32} {Post : Int32 → Mem → Prop} (hr : 1 < hm) (hW : (st.map fun v => v.category).sum ≤ 8) (hd : decode cc pc = .ok (.invokevirtual 136, 3)) (h : wp_X11_isNoDoor Post M v1) (kk : ∀ r M1, Post r M1 → G E x M1 (pc + 3) lv (.int r :: st)) : G E x M pc lv (.int v1 :: .ref (ad E 0) :: st) := k_I (fun hP hS hL => run_V X (w_X11_isNoDoor E (xl x)  h) cw_X11_isNoDoor m244 m245 m246 (⟨by decide, fun E f h => ⟨_, _, _, rfl, rfl, rfl⟩⟩ : OC 0 RX11) hr rfl hd hW hP hS hL) kk
theorem cw_X11_door : CW yX11_door cX11_door 3 (some .int) 2 := ⟨m250, m10, Nat.le_of_ble_eq_true rfl, by decide +kernel⟩
def wp_X11_door (Post : Int32 → Mem → Prop) (M : Mem) (v1 : Int32) (v2 : Int32) : Prop :=
 wp_X11_isNoDoor (fun r1 M2 =>
  (r1 = 0 →
   (v2 = 0 →
    vp_in v1 6 ∧
    Post (rd M2 4 v1.toNatClampNeg) M2) ∧
   (v2 = 1 →
    vp_in v1 6 ∧
    Post (rd M2 5 v1.toNatClampNeg) M2) ∧
   (v2 = 2 →
    vp_in v1 6 ∧
    Post (rd M2 6 v1.toNatClampNeg) M2) ∧
   (¬ v2 = 0 → ¬ v2 = 1 → ¬ v2 = 2 → 
    Post (-102) M2)) ∧
  (¬ r1 = 0 →
   Post (-101) M2)) M v1
theorem w_X11_door (E : Ek) (l : Launch) {v1 : Int32} {v2 : Int32} {M : Mem} {Post : Int32 → Mem → Prop} (h : wp_X11_door Post M v1 v2) : ctI E l yX11_door cX11_door 3 (some .int) 2 [.ref (ad E 0), .int v1, .int v2] M Post := by
  refine ct_of (by decide) (Nat.le_of_ble_eq_true rfl) (fun x X hQ => ?_)
  change G E x M 0 [(0, .ref (ad E 0)), (1, .int v1), (2, .int v2)] []
  refine g_aload_n X dX11_door_0 rfl 0 rfl ?_
  refine g_iload_n X dX11_door_1 rfl 1 rfl ?_
  refine cl_X11_136 X (by decide) (Nat.le_of_ble_eq_true rfl) dX11_door_2 h (fun r1 M2 h => ?_)
  refine g_ifeq (tgt := 11) X dX11_door_5 (by decide) h (fun h => ?_) (fun h => ?_)
  · refine g_iload_n X dX11_door_11 rfl 2 rfl ?_
    by_cases c0 : v2 = 0
    · have h := h.1 c0
      refine g_tabI (tgt := 40) X dX11_door_12 c0 ⟨⟨by decide, by decide⟩, rfl⟩ (by decide) ?_
      refine g_aload_n X dX11_door_40 rfl 0 rfl ?_
      refine fg_X11_19 X dX11_door_41 ?_
      refine fg_X11_139 X dX11_door_44 ?_
      refine g_iload_n X dX11_door_47 rfl 1 rfl ?_
      refine g_iald X ia_4 dX11_door_48 h (fun h => ?_)
      exact g_iret X hQ dX11_door_49 h
    by_cases c1 : v2 = 1
    · have h := h.2.1 c1
      refine g_tabI (tgt := 50) X dX11_door_12 c1 ⟨⟨by decide, by decide⟩, rfl⟩ (by decide) ?_
      refine g_aload_n X dX11_door_50 rfl 0 rfl ?_
      refine fg_X11_19 X dX11_door_51 ?_
      refine fg_X11_142 X dX11_door_54 ?_
      refine g_iload_n X dX11_door_57 rfl 1 rfl ?_
      refine g_iald X ia_5 dX11_door_58 h (fun h => ?_)
      exact g_iret X hQ dX11_door_59 h
    by_cases c2 : v2 = 2
    · have h := h.2.2.1 c2
      refine g_tabI (tgt := 60) X dX11_door_12 c2 ⟨⟨by decide, by decide⟩, rfl⟩ (by decide) ?_
      refine g_aload_n X dX11_door_60 rfl 0 rfl ?_
      refine fg_X11_19 X dX11_door_61 ?_
      refine fg_X11_145 X dX11_door_64 ?_
      refine g_iload_n X dX11_door_67 rfl 1 rfl ?_
      refine g_iald X ia_6 dX11_door_68 h (fun h => ?_)
      exact g_iret X hQ dX11_door_69 h
    have h := h.2.2.2 c0 c1 c2
    refine g_tabO (tgt := 70) X dX11_door_12 (by have e0 := lv_neT (a := 0) c0 (by decide); have e1 := lv_neT (a := 1) c1 (by decide); have e2 := lv_neT (a := 2) c2 (by decide); omega) (by decide) ?_
    refine g_bipush (v := (-102)) X dX11_door_70 (by decide) ?_
    exact g_iret X hQ dX11_door_72 h
  · refine g_bipush (v := (-101)) X dX11_door_8 (by decide) ?_
    exact g_iret X hQ dX11_door_10 h
theorem cl_X11_273 {E : Ek} {x : MC} {cc : ByteArray} {nL hm pc : Nat} {M : Mem} {lv : List (Nat × Value)} {st : List Value} (X : Cx E x cc nL RX11 hm) {v1 : Int32} {v2 : Int32} {Post : Int32 → Mem → Prop} (hr : 2 < hm) (hW : (st.map fun v => v.category).sum ≤ 8) (hd : decode cc pc = .ok (.invokevirtual 273, 3)) (h : wp_X11_door Post M v1 v2) (kk : ∀ r M1, Post r M1 → G E x M1 (pc + 3) lv (.int r :: st)) : G E x M pc lv (.int v2 :: .int v1 :: .ref (ad E 0) :: st) := k_I (fun hP hS hL => run_V X (w_X11_door E (xl x)  h) cw_X11_door m478 m479 m480 (⟨by decide, fun E f h => ⟨_, _, _, rfl, rfl, rfl⟩⟩ : OC 0 RX11) hr rfl hd hW hP hS hL) kk
theorem cw_X11_isNoDebt : CW yX11_isNoDebt cX11_isNoDebt 2 (some .boolean) 1 := ⟨m252, m10, Nat.le_of_ble_eq_true rfl, by decide +kernel⟩
def wp_X11_isNoDebt (Post : Int32 → Mem → Prop) (M : Mem) (v1 : Int32) : Prop :=
 (v1 < 0 →
  Post 1 M) ∧
 (¬ v1 < 0 →
  (v1 < (rd M 3 3) →
   Post 0 M) ∧
  (¬ v1 < (rd M 3 3) →
   Post 1 M))
theorem w_X11_isNoDebt (E : Ek) (l : Launch) {v1 : Int32} {M : Mem} {Post : Int32 → Mem → Prop} (h : wp_X11_isNoDebt Post M v1) : ctI E l yX11_isNoDebt cX11_isNoDebt 2 (some .boolean) 1 [.ref (ad E 0), .int v1] M Post := by
  refine ct_of (by decide) (Nat.le_of_ble_eq_true rfl) (fun x X hQ => ?_)
  change G E x M 0 [(0, .ref (ad E 0)), (1, .int v1)] []
  refine g_iload_n X dX11_isNoDebt_0 rfl 1 rfl ?_
  refine g_iflt (tgt := 15) X dX11_isNoDebt_1 (by decide) h (fun h => ?_) (fun h => ?_)
  · refine g_iconst (v := 1) X dX11_isNoDebt_15 (by decide) ?_
    refine g_goto (tgt := 20) X dX11_isNoDebt_16 (by decide) ?_
    exact g_zret X hQ dX11_isNoDebt_20 ⟨Or.inr rfl, h⟩
  · refine g_iload_n X dX11_isNoDebt_4 rfl 1 rfl ?_
    refine g_aload_n X dX11_isNoDebt_5 rfl 0 rfl ?_
    refine fg_X11_19 X dX11_isNoDebt_6 ?_
    refine fg_X11_258 X dX11_isNoDebt_9 ?_
    refine g_icmplt (tgt := 19) X dX11_isNoDebt_12 (by decide) h (fun h => ?_) (fun h => ?_)
    · refine g_iconst (v := 0) X dX11_isNoDebt_19 (by decide) ?_
      exact g_zret X hQ dX11_isNoDebt_20 ⟨Or.inl rfl, h⟩
    · refine g_iconst (v := 1) X dX11_isNoDebt_15 (by decide) ?_
      refine g_goto (tgt := 20) X dX11_isNoDebt_16 (by decide) ?_
      exact g_zret X hQ dX11_isNoDebt_20 ⟨Or.inr rfl, h⟩
theorem cl_X11_148 {E : Ek} {x : MC} {cc : ByteArray} {nL hm pc : Nat} {M : Mem} {lv : List (Nat × Value)} {st : List Value} (X : Cx E x cc nL RX11 hm) {v1 : Int32} {Post : Int32 → Mem → Prop} (hr : 1 < hm) (hW : (st.map fun v => v.category).sum ≤ 8) (hd : decode cc pc = .ok (.invokevirtual 148, 3)) (h : wp_X11_isNoDebt Post M v1) (kk : ∀ r M1, Post r M1 → G E x M1 (pc + 3) lv (.int r :: st)) : G E x M pc lv (.int v1 :: .ref (ad E 0) :: st) := k_I (fun hP hS hL => run_V X (w_X11_isNoDebt E (xl x)  h) cw_X11_isNoDebt m253 m254 m255 (⟨by decide, fun E f h => ⟨_, _, _, rfl, rfl, rfl⟩⟩ : OC 0 RX11) hr rfl hd hW hP hS hL) kk
theorem cw_X11_debt : CW yX11_debt cX11_debt 3 (some .int) 2 := ⟨m262, m10, Nat.le_of_ble_eq_true rfl, by decide +kernel⟩
def wp_X11_debt (Post : Int32 → Mem → Prop) (M : Mem) (v1 : Int32) (v2 : Int32) : Prop :=
 wp_X11_isNoDebt (fun r1 M2 =>
  (r1 = 0 →
   (v2 = 0 →
    vp_in v1 4 ∧
    Post (rd M2 8 v1.toNatClampNeg) M2) ∧
   (v2 = 1 →
    vp_in v1 4 ∧
    Post (rd M2 9 v1.toNatClampNeg) M2) ∧
   (v2 = 2 →
    vp_in v1 4 ∧
    Post (rd M2 10 v1.toNatClampNeg) M2) ∧
   (v2 = 3 →
    vp_in v1 4 ∧
    Post (rd M2 63 v1.toNatClampNeg) M2) ∧
   (v2 = 4 →
    wp_X0_costOf (fun r3 M4 =>
     Post r3 M4) M2 59 v1) ∧
   (v2 = 5 →
    vp_in v1 4 ∧
    ((rd M2 64 v1.toNatClampNeg) = 0 →
     Post 0 M2) ∧
    (¬ (rd M2 64 v1.toNatClampNeg) = 0 →
     Post 1 M2)) ∧
   (¬ v2 = 0 → ¬ v2 = 1 → ¬ v2 = 2 → ¬ v2 = 3 → ¬ v2 = 4 → ¬ v2 = 5 → 
    Post (-102) M2)) ∧
  (¬ r1 = 0 →
   Post (-101) M2)) M v1
theorem w_X11_debt (E : Ek) (l : Launch) {v1 : Int32} {v2 : Int32} {M : Mem} {Post : Int32 → Mem → Prop} (h : wp_X11_debt Post M v1 v2) : ctI E l yX11_debt cX11_debt 3 (some .int) 3 [.ref (ad E 0), .int v1, .int v2] M Post := by
  refine ct_of (by decide) (Nat.le_of_ble_eq_true rfl) (fun x X hQ => ?_)
  change G E x M 0 [(0, .ref (ad E 0)), (1, .int v1), (2, .int v2)] []
  refine g_aload_n X dX11_debt_0 rfl 0 rfl ?_
  refine g_iload_n X dX11_debt_1 rfl 1 rfl ?_
  refine cl_X11_148 X (by decide) (Nat.le_of_ble_eq_true rfl) dX11_debt_2 h (fun r1 M2 h => ?_)
  refine g_ifeq (tgt := 11) X dX11_debt_5 (by decide) h (fun h => ?_) (fun h => ?_)
  · refine g_iload_n X dX11_debt_11 rfl 2 rfl ?_
    by_cases c0 : v2 = 0
    · have h := h.1 c0
      refine g_tabI (tgt := 52) X dX11_debt_12 c0 ⟨⟨by decide, by decide⟩, rfl⟩ (by decide) ?_
      refine g_aload_n X dX11_debt_52 rfl 0 rfl ?_
      refine fg_X11_19 X dX11_debt_53 ?_
      refine fg_X11_151 X dX11_debt_56 ?_
      refine g_iload_n X dX11_debt_59 rfl 1 rfl ?_
      refine g_iald X ia_8 dX11_debt_60 h (fun h => ?_)
      exact g_iret X hQ dX11_debt_61 h
    by_cases c1 : v2 = 1
    · have h := h.2.1 c1
      refine g_tabI (tgt := 62) X dX11_debt_12 c1 ⟨⟨by decide, by decide⟩, rfl⟩ (by decide) ?_
      refine g_aload_n X dX11_debt_62 rfl 0 rfl ?_
      refine fg_X11_19 X dX11_debt_63 ?_
      refine fg_X11_154 X dX11_debt_66 ?_
      refine g_iload_n X dX11_debt_69 rfl 1 rfl ?_
      refine g_iald X ia_9 dX11_debt_70 h (fun h => ?_)
      exact g_iret X hQ dX11_debt_71 h
    by_cases c2 : v2 = 2
    · have h := h.2.2.1 c2
      refine g_tabI (tgt := 72) X dX11_debt_12 c2 ⟨⟨by decide, by decide⟩, rfl⟩ (by decide) ?_
      refine g_aload_n X dX11_debt_72 rfl 0 rfl ?_
      refine fg_X11_19 X dX11_debt_73 ?_
      refine fg_X11_157 X dX11_debt_76 ?_
      refine g_iload_n X dX11_debt_79 rfl 1 rfl ?_
      refine g_iald X ia_10 dX11_debt_80 h (fun h => ?_)
      exact g_iret X hQ dX11_debt_81 h
    by_cases c3 : v2 = 3
    · have h := h.2.2.2.1 c3
      refine g_tabI (tgt := 82) X dX11_debt_12 c3 ⟨⟨by decide, by decide⟩, rfl⟩ (by decide) ?_
      refine g_aload_n X dX11_debt_82 rfl 0 rfl ?_
      refine fg_X11_28 X dX11_debt_83 ?_
      refine fg_X11_160 X aff_59 dX11_debt_86 ?_
      refine g_iload_n X dX11_debt_89 rfl 1 rfl ?_
      refine g_iald X (af_ia4 aff_59) dX11_debt_90 h (fun h => ?_)
      exact g_iret X hQ dX11_debt_91 h
    by_cases c4 : v2 = 4
    · have h := h.2.2.2.2.1 c4
      refine g_tabI (tgt := 92) X dX11_debt_12 c4 ⟨⟨by decide, by decide⟩, rfl⟩ (by decide) ?_
      refine g_aload_n X dX11_debt_92 rfl 0 rfl ?_
      refine fg_X11_28 X dX11_debt_93 ?_
      refine g_iload_n X dX11_debt_96 rfl 1 rfl ?_
      refine cl_X11_163 X aff_59 (by decide) (Nat.le_of_ble_eq_true rfl) dX11_debt_97 h (fun r3 M4 h => ?_)
      exact g_iret X hQ dX11_debt_100 h
    by_cases c5 : v2 = 5
    · have h := h.2.2.2.2.2.1 c5
      refine g_tabI (tgt := 101) X dX11_debt_12 c5 ⟨⟨by decide, by decide⟩, rfl⟩ (by decide) ?_
      refine g_aload_n X dX11_debt_101 rfl 0 rfl ?_
      refine fg_X11_28 X dX11_debt_102 ?_
      refine fg_X11_166 X aff_59 dX11_debt_105 ?_
      refine g_iload_n X dX11_debt_108 rfl 1 rfl ?_
      refine g_zald X (af_za5 aff_59) dX11_debt_109 h (fun h => ?_)
      refine g_ifeq (tgt := 117) X dX11_debt_110 (by decide) h (fun h => ?_) (fun h => ?_)
      · refine g_iconst (v := 0) X dX11_debt_117 (by decide) ?_
        exact g_iret X hQ dX11_debt_118 h
      · refine g_iconst (v := 1) X dX11_debt_113 (by decide) ?_
        refine g_goto (tgt := 118) X dX11_debt_114 (by decide) ?_
        exact g_iret X hQ dX11_debt_118 h
    have h := h.2.2.2.2.2.2 c0 c1 c2 c3 c4 c5
    refine g_tabO (tgt := 119) X dX11_debt_12 (by have e0 := lv_neT (a := 0) c0 (by decide); have e1 := lv_neT (a := 1) c1 (by decide); have e2 := lv_neT (a := 2) c2 (by decide); have e3 := lv_neT (a := 3) c3 (by decide); have e4 := lv_neT (a := 4) c4 (by decide); have e5 := lv_neT (a := 5) c5 (by decide); omega) (by decide) ?_
    refine g_bipush (v := (-102)) X dX11_debt_119 (by decide) ?_
    exact g_iret X hQ dX11_debt_121 h
  · refine g_bipush (v := (-101)) X dX11_debt_8 (by decide) ?_
    exact g_iret X hQ dX11_debt_10 h
theorem cl_X11_279 {E : Ek} {x : MC} {cc : ByteArray} {nL hm pc : Nat} {M : Mem} {lv : List (Nat × Value)} {st : List Value} (X : Cx E x cc nL RX11 hm) {v1 : Int32} {v2 : Int32} {Post : Int32 → Mem → Prop} (hr : 3 < hm) (hW : (st.map fun v => v.category).sum ≤ 8) (hd : decode cc pc = .ok (.invokevirtual 279, 3)) (h : wp_X11_debt Post M v1 v2) (kk : ∀ r M1, Post r M1 → G E x M1 (pc + 3) lv (.int r :: st)) : G E x M pc lv (.int v2 :: .int v1 :: .ref (ad E 0) :: st) := k_I (fun hP hS hL => run_V X (w_X11_debt E (xl x)  h) cw_X11_debt m481 m482 m483 (⟨by decide, fun E f h => ⟨_, _, _, rfl, rfl, rfl⟩⟩ : OC 0 RX11) hr rfl hd hW hP hS hL) kk
