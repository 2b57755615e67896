theorem cw_X6_append : CW yX6_append cX6_append 2 (some .boolean) 1 := ⟨m2, m3, Nat.le_of_ble_eq_true rfl, by decide +kernel⟩
def wp_X6_append (Post : Int32 → Mem → Prop) (M : Mem) (v1 : Int32) : Prop :=
 ((rd M 1 1) < 64 →
  vp_in (rd M 1 1) 64 ∧
  ∀ M1 : Mem, M1 = wr M 2 (rd M 1 1).toNatClampNeg v1 →
  ∀ M2 : Mem, M2 = wr M1 1 1 ((rd M1 1 1) + 1) →
  Post 1 M2) ∧
 (¬ (rd M 1 1) < 64 →
  Post 0 M)
theorem w_X6_append (E : Ek) (l : Launch) {v1 : Int32} {M : Mem} {Post : Int32 → Mem → Prop} (h : wp_X6_append Post M v1) : ctI E l yX6_append cX6_append 2 (some .boolean) 1 [.ref (ad E 1), .int v1] M Post := by
  refine ct_of (by decide) (Nat.le_of_ble_eq_true rfl) (fun x X hQ => ?_)
  change G E x M 0 [(0, .ref (ad E 1)), (1, .int v1)] []
  refine g_aload_n X dX6_append_0 rfl 0 rfl ?_
  refine fg_X6_15 X dX6_append_1 ?_
  refine g_bipush (v := 64) X dX6_append_4 (by decide) ?_
  refine g_icmplt (tgt := 11) X dX6_append_6 (by decide) h (fun h => ?_) (fun h => ?_)
  · refine g_aload_n X dX6_append_11 rfl 0 rfl ?_
    refine fg_X6_9 X dX6_append_12 ?_
    refine g_aload_n X dX6_append_15 rfl 0 rfl ?_
    refine fg_X6_15 X dX6_append_16 ?_
    refine g_iload_n X dX6_append_19 rfl 1 rfl ?_
    refine g_iast X ia_2 dX6_append_20 h (fun M1 h => ?_)
    refine g_aload_n X dX6_append_21 rfl 0 rfl ?_
    refine g_dup X dX6_append_22 rfl ?_
    refine fg_X6_15 X dX6_append_23 ?_
    refine g_iconst (v := 1) X dX6_append_26 (by decide) ?_
    refine g_iadd X dX6_append_27 ?_
    refine fp_X6_15 X dX6_append_28 h (fun M2 h => ?_)
    refine g_iconst (v := 1) X dX6_append_31 (by decide) ?_
    exact g_zret X hQ dX6_append_32 ⟨Or.inr rfl, h⟩
  · refine g_iconst (v := 0) X dX6_append_9 (by decide) ?_
    exact g_zret X hQ dX6_append_10 ⟨Or.inl rfl, h⟩
theorem cl_X11_67 {E : Ek} {x : MC} {cc : ByteArray} {nL hm pc : Nat} {M : Mem} {lv : List (Nat × Value)} {st : List Value} (X : Cx E x cc nL RX11 hm) {v1 : Int32} {Post : Int32 → Mem → Prop} (hr : 1 < hm) (hW : (st.map fun v => v.category).sum ≤ 8) (hd : decode cc pc = .ok (.invokevirtual 67, 3)) (h : wp_X6_append Post M v1) (kk : ∀ r M1, Post r M1 → G E x M1 (pc + 3) lv (.int r :: st)) : G E x M pc lv (.int v1 :: .ref (ad E 1) :: st) := k_I (fun hP hS hL => run_VN X (w_X6_append E (xl x)  h) cw_X6_append m5 m6 m7 (⟨by decide, fun E f h => ⟨_, _, _, rfl, rfl, rfl⟩⟩ : OC 1 RX6) hr rfl hd hW hP hS hL) kk
theorem cw_X11_letter : CW yX11_letter cX11_letter 2 (some .int) 1 := ⟨m9, m10, Nat.le_of_ble_eq_true rfl, by decide +kernel⟩
def wp_X11_letter (Post : Int32 → Mem → Prop) (M : Mem) (v1 : Int32) : Prop :=
 (v1 < 1 →
  Post (-102) M) ∧
 (¬ v1 < 1 →
  (v1 ≤ 126 →
   wp_X6_append (fun r1 M2 =>
    (r1 = 0 →
     Post (-104) M2) ∧
    (¬ r1 = 0 →
     Post (rd M2 1 1) M2)) M v1) ∧
  (¬ v1 ≤ 126 →
   Post (-102) M))
theorem w_X11_letter (E : Ek) (l : Launch) {v1 : Int32} {M : Mem} {Post : Int32 → Mem → Prop} (h : wp_X11_letter Post M v1) : ctI E l yX11_letter cX11_letter 2 (some .int) 2 [.ref (ad E 0), .int v1] M Post := by
  refine ct_of (by decide) (Nat.le_of_ble_eq_true rfl) (fun x X hQ => ?_)
  change G E x M 0 [(0, .ref (ad E 0)), (1, .int v1)] []
  refine g_iload_n X dX11_letter_0 rfl 1 rfl ?_
  refine g_iconst (v := 1) X dX11_letter_1 (by decide) ?_
  refine g_icmplt (tgt := 11) X dX11_letter_2 (by decide) h (fun h => ?_) (fun h => ?_)
  · refine g_bipush (v := (-102)) X dX11_letter_11 (by decide) ?_
    exact g_iret X hQ dX11_letter_13 h
  · refine g_iload_n X dX11_letter_5 rfl 1 rfl ?_
    refine g_bipush (v := 126) X dX11_letter_6 (by decide) ?_
    refine g_icmple (tgt := 14) X dX11_letter_8 (by decide) h (fun h => ?_) (fun h => ?_)
    · refine g_aload_n X dX11_letter_14 rfl 0 rfl ?_
      refine fg_X11_10 X dX11_letter_15 ?_
      refine g_iload_n X dX11_letter_18 rfl 1 rfl ?_
      refine cl_X11_67 X (by decide) (Nat.le_of_ble_eq_true rfl) dX11_letter_19 h (fun r1 M2 h => ?_)
      refine g_ifeq (tgt := 35) X dX11_letter_22 (by decide) h (fun h => ?_) (fun h => ?_)
      · refine g_bipush (v := (-104)) X dX11_letter_35 (by decide) ?_
        exact g_iret X hQ dX11_letter_37 h
      · refine g_aload_n X dX11_letter_25 rfl 0 rfl ?_
        refine fg_X11_10 X dX11_letter_26 ?_
        refine fg_X11_71 X dX11_letter_29 ?_
        refine g_goto (tgt := 37) X dX11_letter_32 (by decide) ?_
        exact g_iret X hQ dX11_letter_37 h
    · refine g_bipush (v := (-102)) X dX11_letter_11 (by decide) ?_
      exact g_iret X hQ dX11_letter_13 h
theorem cw_X11_blank : CW yX11_blank cX11_blank 2 (some .int) 0 := ⟨m11, m10, Nat.le_of_ble_eq_true rfl, by decide +kernel⟩
def wp_X11_blank (Post : Int32 → Mem → Prop) (M : Mem) : Prop :=
 ∀ x1_1 : Int32, x1_1 = rd M 1 1 →
 ∀ M2 : Mem, M2 = wr M 1 1 0 →
 Post x1_1 M2
theorem w_X11_blank (E : Ek) (l : Launch) {M : Mem} {Post : Int32 → Mem → Prop} (h : wp_X11_blank Post M ) : ctI E l yX11_blank cX11_blank 2 (some .int) 1 [.ref (ad E 0)] M Post := by
  refine ct_of (by decide) (Nat.le_of_ble_eq_true rfl) (fun x X hQ => ?_)
  change G E x M 0 [(0, .ref (ad E 0))] []
  refine g_aload_n X dX11_blank_0 rfl 0 rfl ?_
  refine fg_X11_10 X dX11_blank_1 ?_
  refine fg_X11_71 X dX11_blank_4 ?_
  refine g_nm h (fun x1_1 h => ?_)
  refine g_istore_n (lv' := [(0, .ref (ad E 0)), (1, .int x1_1)]) X dX11_blank_7 rfl (Nat.le_of_ble_eq_true rfl) rfl rfl ?_
  refine g_aload_n X dX11_blank_8 rfl 0 rfl ?_
  refine fg_X11_10 X dX11_blank_9 ?_
  refine g_iconst (v := 0) X dX11_blank_12 (by decide) ?_
  refine fp_X11_71 X dX11_blank_13 h (fun M2 h => ?_)
  refine g_iload_n X dX11_blank_16 rfl 1 rfl ?_
  exact g_iret X hQ dX11_blank_17 h
theorem cw_X6_takesIf : CW yX6_takesIf cX6_takesIf 2 (some .boolean) 1 := ⟨m13, m3, Nat.le_of_ble_eq_true rfl, by decide +kernel⟩
def wp_X6_takesIf (Post : Int32 → Mem → Prop) (M : Mem) (v1 : Int32) : Prop :=
 ∀ M1 : Mem, M1 = wr M 1 5 ((rd M 1 5) + 1) →
 zb v1 ∧ Post v1 M1
theorem w_X6_takesIf (E : Ek) (l : Launch) {v1 : Int32} {M : Mem} {Post : Int32 → Mem → Prop} (h : wp_X6_takesIf Post M v1) : ctI E l yX6_takesIf cX6_takesIf 2 (some .boolean) 1 [.ref (ad E 1), .int v1] M Post := by
  refine ct_of (by decide) (Nat.le_of_ble_eq_true rfl) (fun x X hQ => ?_)
  change G E x M 0 [(0, .ref (ad E 1)), (1, .int v1)] []
  refine g_aload_n X dX6_takesIf_0 rfl 0 rfl ?_
  refine g_dup X dX6_takesIf_1 rfl ?_
  refine fg_X6_22 X dX6_takesIf_2 ?_
  refine g_iconst (v := 1) X dX6_takesIf_5 (by decide) ?_
  refine g_iadd X dX6_takesIf_6 ?_
  refine fp_X6_22 X dX6_takesIf_7 h (fun M1 h => ?_)
  refine g_iload_n X dX6_takesIf_10 rfl 1 rfl ?_
  exact g_zret X hQ dX6_takesIf_11 h
theorem cl_X6_63 {E : Ek} {x : MC} {cc : ByteArray} {nL hm pc : Nat} {M : Mem} {lv : List (Nat × Value)} {st : List Value} (X : Cx E x cc nL RX6 hm) {v1 : Int32} {Post : Int32 → Mem → Prop} (hr : 1 < hm) (hW : (st.map fun v => v.category).sum ≤ 8) (hd : decode cc pc = .ok (.invokevirtual 63, 3)) (h : wp_X6_takesIf Post M v1) (kk : ∀ r M1, Post r M1 → G E x M1 (pc + 3) lv (.int r :: st)) : G E x M pc lv (.int v1 :: .ref (ad E 1) :: st) := k_I (fun hP hS hL => run_V X (w_X6_takesIf E (xl x)  h) cw_X6_takesIf m20 m21 m22 (⟨by decide, fun E f h => ⟨_, _, _, rfl, rfl, rfl⟩⟩ : OC 1 RX6) hr rfl hd hW hP hS hL) kk
theorem cw_X6_opens : CW yX6_opens cX6_opens 2 (some .boolean) 1 := ⟨m15, m3, Nat.le_of_ble_eq_true rfl, by decide +kernel⟩
def wp_X6_opens (Post : Int32 → Mem → Prop) (M : Mem) (v1 : Int32) : Prop :=
 ∀ M1 : Mem, M1 = wr M 1 4 v1 →
 ∀ M2 : Mem, M2 = wr M1 1 5 0 →
 Post 1 M2
theorem w_X6_opens (E : Ek) (l : Launch) {v1 : Int32} {M : Mem} {Post : Int32 → Mem → Prop} (h : wp_X6_opens Post M v1) : ctI E l yX6_opens cX6_opens 2 (some .boolean) 1 [.ref (ad E 1), .int v1] M Post := by
  refine ct_of (by decide) (Nat.le_of_ble_eq_true rfl) (fun x X hQ => ?_)
  change G E x M 0 [(0, .ref (ad E 1)), (1, .int v1)] []
  refine g_aload_n X dX6_opens_0 rfl 0 rfl ?_
  refine g_iload_n X dX6_opens_1 rfl 1 rfl ?_
  refine fp_X6_19 X dX6_opens_2 h (fun M1 h => ?_)
  refine g_aload_n X dX6_opens_5 rfl 0 rfl ?_
  refine g_iconst (v := 0) X dX6_opens_6 (by decide) ?_
  refine fp_X6_22 X dX6_opens_7 h (fun M2 h => ?_)
  refine g_iconst (v := 1) X dX6_opens_10 (by decide) ?_
  exact g_zret X hQ dX6_opens_11 ⟨Or.inr rfl, h⟩
theorem cl_X6_67 {E : Ek} {x : MC} {cc : ByteArray} {nL hm pc : Nat} {M : Mem} {lv : List (Nat × Value)} {st : List Value} (X : Cx E x cc nL RX6 hm) {v1 : Int32} {Post : Int32 → Mem → Prop} (hr : 1 < hm) (hW : (st.map fun v => v.category).sum ≤ 8) (hd : decode cc pc = .ok (.invokevirtual 67, 3)) (h : wp_X6_opens Post M v1) (kk : ∀ r M1, Post r M1 → G E x M1 (pc + 3) lv (.int r :: st)) : G E x M pc lv (.int v1 :: .ref (ad E 1) :: st) := k_I (fun hP hS hL => run_V X (w_X6_opens E (xl x)  h) cw_X6_opens m16 m17 m18 (⟨by decide, fun E f h => ⟨_, _, _, rfl, rfl, rfl⟩⟩ : OC 1 RX6) hr rfl hd hW hP hS hL) kk
theorem cw_X6_takesInRooms : CW yX6_takesInRooms cX6_takesInRooms 2 (some .boolean) 1 := ⟨m23, m3, Nat.le_of_ble_eq_true rfl, by decide +kernel⟩
def wp_X6_takesInRooms (Post : Int32 → Mem → Prop) (M : Mem) (v1 : Int32) : Prop :=
 (¬ (rd M 1 5) = 0 →
  (¬ v1 = 59 →
   Post 0 M) ∧
  (v1 = 59 →
   wp_X6_opens (fun r1 M2 =>
    (r1 = 0 →
     Post 0 M2) ∧
    (¬ r1 = 0 →
     Post 1 M2)) M 1)) ∧
 ((rd M 1 5) = 0 →
  ∀ M3 : Mem, M3 = wr M 1 7 (v1 - 48) →
  ((rd M3 1 7) < 2 →
   wp_X6_takesIf (fun r4 M5 =>
    zb r4 ∧ Post r4 M5) M3 0) ∧
  (¬ (rd M3 1 7) < 2 →
   (6 < (rd M3 1 7) →
    wp_X6_takesIf (fun r6 M7 =>
     zb r6 ∧ Post r6 M7) M3 0) ∧
   (¬ 6 < (rd M3 1 7) →
    wp_X6_takesIf (fun r8 M9 =>
     zb r8 ∧ Post r8 M9) M3 1)))
theorem w_X6_takesInRooms (E : Ek) (l : Launch) {v1 : Int32} {M : Mem} {Post : Int32 → Mem → Prop} (h : wp_X6_takesInRooms Post M v1) : ctI E l yX6_takesInRooms cX6_takesInRooms 2 (some .boolean) 2 [.ref (ad E 1), .int v1] M Post := by
  refine ct_of (by decide) (Nat.le_of_ble_eq_true rfl) (fun x X hQ => ?_)
  change G E x M 0 [(0, .ref (ad E 1)), (1, .int v1)] []
  refine g_aload_n X dX6_takesInRooms_0 rfl 0 rfl ?_
  refine fg_X6_22 X dX6_takesInRooms_1 ?_
  refine g_ifne (tgt := 42) X dX6_takesInRooms_4 (by decide) h (fun h => ?_) (fun h => ?_)
  · refine g_iload_n X dX6_takesInRooms_42 rfl 1 rfl ?_
    refine g_bipush (v := 59) X dX6_takesInRooms_43 (by decide) ?_
    refine g_icmpne (tgt := 60) X dX6_takesInRooms_45 (by decide) h (fun h => ?_) (fun h => ?_)
    · refine g_iconst (v := 0) X dX6_takesInRooms_60 (by decide) ?_
      exact g_zret X hQ dX6_takesInRooms_61 ⟨Or.inl rfl, h⟩
    · refine g_aload_n X dX6_takesInRooms_48 rfl 0 rfl ?_
      refine g_iconst (v := 1) X dX6_takesInRooms_49 (by decide) ?_
      refine cl_X6_67 X (by decide) (Nat.le_of_ble_eq_true rfl) dX6_takesInRooms_50 h (fun r1 M2 h => ?_)
      refine g_ifeq (tgt := 60) X dX6_takesInRooms_53 (by decide) h (fun h => ?_) (fun h => ?_)
      · refine g_iconst (v := 0) X dX6_takesInRooms_60 (by decide) ?_
        exact g_zret X hQ dX6_takesInRooms_61 ⟨Or.inl rfl, h⟩
      · refine g_iconst (v := 1) X dX6_takesInRooms_56 (by decide) ?_
        refine g_goto (tgt := 61) X dX6_takesInRooms_57 (by decide) ?_
        exact g_zret X hQ dX6_takesInRooms_61 ⟨Or.inr rfl, h⟩
  · refine g_aload_n X dX6_takesInRooms_7 rfl 0 rfl ?_
    refine g_iload_n X dX6_takesInRooms_8 rfl 1 rfl ?_
    refine g_bipush (v := 48) X dX6_takesInRooms_9 (by decide) ?_
    refine g_isub X dX6_takesInRooms_11 ?_
    refine fp_X6_28 X dX6_takesInRooms_12 h (fun M3 h => ?_)
    refine g_aload_n X dX6_takesInRooms_15 rfl 0 rfl ?_
    refine g_aload_n X dX6_takesInRooms_16 rfl 0 rfl ?_
    refine fg_X6_28 X dX6_takesInRooms_17 ?_
    refine g_iconst (v := 2) X dX6_takesInRooms_20 (by decide) ?_
    refine g_icmplt (tgt := 37) X dX6_takesInRooms_21 (by decide) h (fun h => ?_) (fun h => ?_)
    · refine g_iconst (v := 0) X dX6_takesInRooms_37 (by decide) ?_
      refine cl_X6_63 X (by decide) (Nat.le_of_ble_eq_true rfl) dX6_takesInRooms_38 h (fun r4 M5 h => ?_)
      exact g_zret X hQ dX6_takesInRooms_41 h
    · refine g_aload_n X dX6_takesInRooms_24 rfl 0 rfl ?_
      refine fg_X6_28 X dX6_takesInRooms_25 ?_
      refine g_bipush (v := 6) X dX6_takesInRooms_28 (by decide) ?_
      refine g_icmpgt (tgt := 37) X dX6_takesInRooms_30 (by decide) h (fun h => ?_) (fun h => ?_)
      · refine g_iconst (v := 0) X dX6_takesInRooms_37 (by decide) ?_
        refine cl_X6_63 X (by decide) (Nat.le_of_ble_eq_true rfl) dX6_takesInRooms_38 h (fun r6 M7 h => ?_)
        exact g_zret X hQ dX6_takesInRooms_41 h
      · refine g_iconst (v := 1) X dX6_takesInRooms_33 (by decide) ?_
        refine g_goto (tgt := 38) X dX6_takesInRooms_34 (by decide) ?_
        refine cl_X6_63 X (by decide) (Nat.le_of_ble_eq_true rfl) dX6_takesInRooms_38 h (fun r8 M9 h => ?_)
        exact g_zret X hQ dX6_takesInRooms_41 h
theorem cl_X6_51 {E : Ek} {x : MC} {cc : ByteArray} {nL hm pc : Nat} {M : Mem} {lv : List (Nat × Value)} {st : List Value} (X : Cx E x cc nL RX6 hm) {v1 : Int32} {Post : Int32 → Mem → Prop} (hr : 2 < hm) (hW : (st.map fun v => v.category).sum ≤ 8) (hd : decode cc pc = .ok (.invokevirtual 51, 3)) (h : wp_X6_takesInRooms Post M v1) (kk : ∀ r M1, Post r M1 → G E x M1 (pc + 3) lv (.int r :: st)) : G E x M pc lv (.int v1 :: .ref (ad E 1) :: st) := k_I (fun hP hS hL => run_V X (w_X6_takesInRooms E (xl x)  h) cw_X6_takesInRooms m84 m85 m86 (⟨by decide, fun E f h => ⟨_, _, _, rfl, rfl, rfl⟩⟩ : OC 1 RX6) hr rfl hd hW hP hS hL) kk
theorem cw_X6_isDigitBelow : CW yX6_isDigitBelow cX6_isDigitBelow 2 (some .boolean) 2 := ⟨m24, m3, Nat.le_of_ble_eq_true rfl, by decide +kernel⟩
def wp_X6_isDigitBelow (Post : Int32 → Mem → Prop) (M : Mem) (v0 : Int32) (v1 : Int32) : Prop :=
 (v0 < 48 →
  Post 0 M) ∧
 (¬ v0 < 48 →
  (v1 ≤ (v0 - 48) →
   Post 0 M) ∧
  (¬ v1 ≤ (v0 - 48) →
   Post 1 M))
theorem w_X6_isDigitBelow (E : Ek) (l : Launch) {v0 : Int32} {v1 : Int32} {M : Mem} {Post : Int32 → Mem → Prop} (h : wp_X6_isDigitBelow Post M v0 v1) : ctI E l yX6_isDigitBelow cX6_isDigitBelow 2 (some .boolean) 1 [.int v0, .int v1] M Post := by
  refine ct_of (by decide) (Nat.le_of_ble_eq_true rfl) (fun x X hQ => ?_)
  change G E x M 0 [(0, .int v0), (1, .int v1)] []
  refine g_iload_n X dX6_isDigitBelow_0 rfl 0 rfl ?_
  refine g_bipush (v := 48) X dX6_isDigitBelow_1 (by decide) ?_
  refine g_icmplt (tgt := 18) X dX6_isDigitBelow_3 (by decide) h (fun h => ?_) (fun h => ?_)
  · refine g_iconst (v := 0) X dX6_isDigitBelow_18 (by decide) ?_
    exact g_zret X hQ dX6_isDigitBelow_19 ⟨Or.inl rfl, h⟩
  · refine g_iload_n X dX6_isDigitBelow_6 rfl 0 rfl ?_
    refine g_bipush (v := 48) X dX6_isDigitBelow_7 (by decide) ?_
    refine g_isub X dX6_isDigitBelow_9 ?_
    refine g_iload_n X dX6_isDigitBelow_10 rfl 1 rfl ?_
    refine g_icmpge (tgt := 18) X dX6_isDigitBelow_11 (by decide) h (fun h => ?_) (fun h => ?_)
    · refine g_iconst (v := 0) X dX6_isDigitBelow_18 (by decide) ?_
      exact g_zret X hQ dX6_isDigitBelow_19 ⟨Or.inl rfl, h⟩
    · refine g_iconst (v := 1) X dX6_isDigitBelow_14 (by decide) ?_
      refine g_goto (tgt := 19) X dX6_isDigitBelow_15 (by decide) ?_
      exact g_zret X hQ dX6_isDigitBelow_19 ⟨Or.inr rfl, h⟩
theorem cl_X6_88 {E : Ek} {x : MC} {cc : ByteArray} {nL hm pc : Nat} {M : Mem} {lv : List (Nat × Value)} {st : List Value} (X : Cx E x cc nL RX6 hm) {v0 : Int32} {v1 : Int32} {Post : Int32 → Mem → Prop} (hr : 1 < hm) (hW : (st.map fun v => v.category).sum ≤ 8) (hd : decode cc pc = .ok (.invokestatic 88, 3)) (h : wp_X6_isDigitBelow Post M v0 v1) (kk : ∀ r M1, Post r M1 → G E x M1 (pc + 3) lv (.int r :: st)) : G E x M pc lv (.int v1 :: .int v0 :: st) := k_I (fun hP hS hL => run_S X (w_X6_isDigitBelow E (xl x)  h) cw_X6_isDigitBelow m26 m27 hr rfl hd hW hP hS hL) kk
theorem cw_X6_takesFirst : CW yX6_takesFirst cX6_takesFirst 3 (some .boolean) 2 := ⟨m28, m3, Nat.le_of_ble_eq_true rfl, by decide +kernel⟩
def wp_X6_takesFirst (Post : Int32 → Mem → Prop) (M : Mem) (v1 : Int32) (v2 : Int32) : Prop :=
 ∀ M1 : Mem, M1 = wr M 1 6 (v1 - 48) →
 wp_X6_isDigitBelow (fun r2 M3 =>
  wp_X6_takesIf (fun r4 M5 =>
   zb r4 ∧ Post r4 M5) M3 r2) M1 v1 v2
theorem w_X6_takesFirst (E : Ek) (l : Launch) {v1 : Int32} {v2 : Int32} {M : Mem} {Post : Int32 → Mem → Prop} (h : wp_X6_takesFirst Post M v1 v2) : ctI E l yX6_takesFirst cX6_takesFirst 3 (some .boolean) 2 [.ref (ad E 1), .int v1, .int v2] M Post := by
  refine ct_of (by decide) (Nat.le_of_ble_eq_true rfl) (fun x X hQ => ?_)
  change G E x M 0 [(0, .ref (ad E 1)), (1, .int v1), (2, .int v2)] []
  refine g_aload_n X dX6_takesFirst_0 rfl 0 rfl ?_
  refine g_iload_n X dX6_takesFirst_1 rfl 1 rfl ?_
  refine g_bipush (v := 48) X dX6_takesFirst_2 (by decide) ?_
  refine g_isub X dX6_takesFirst_4 ?_
  refine fp_X6_25 X dX6_takesFirst_5 h (fun M1 h => ?_)
  refine g_aload_n X dX6_takesFirst_8 rfl 0 rfl ?_
  refine g_iload_n X dX6_takesFirst_9 rfl 1 rfl ?_
  refine g_iload_n X dX6_takesFirst_10 rfl 2 rfl ?_
  refine cl_X6_88 X (by decide) (Nat.le_of_ble_eq_true rfl) dX6_takesFirst_11 h (fun r2 M3 h => ?_)
  refine cl_X6_63 X (by decide) (Nat.le_of_ble_eq_true rfl) dX6_takesFirst_14 h (fun r4 M5 h => ?_)
  exact g_zret X hQ dX6_takesFirst_17 h
theorem cl_X6_71 {E : Ek} {x : MC} {cc : ByteArray} {nL hm pc : Nat} {M : Mem} {lv : List (Nat × Value)} {st : List Value} (X : Cx E x cc nL RX6 hm) {v1 : Int32} {v2 : Int32} {Post : Int32 → Mem → Prop} (hr : 2 < hm) (hW : (st.map fun v => v.category).sum ≤ 8) (hd : decode cc pc = .ok (.invokevirtual 71, 3)) (h : wp_X6_takesFirst Post M v1 v2) (kk : ∀ r M1, Post r M1 → G E x M1 (pc + 3) lv (.int r :: st)) : G E x M pc lv (.int v2 :: .int v1 :: .ref (ad E 1) :: st) := k_I (fun hP hS hL => run_V X (w_X6_takesFirst E (xl x)  h) cw_X6_takesFirst m69 m70 m71 (⟨by decide, fun E f h => ⟨_, _, _, rfl, rfl, rfl⟩⟩ : OC 1 RX6) hr rfl hd hW hP hS hL) kk
theorem cw_X6_takesOther : CW yX6_takesOther cX6_takesOther 3 (some .boolean) 2 := ⟨m29, m3, Nat.le_of_ble_eq_true rfl, by decide +kernel⟩
def wp_X6_takesOther (Post : Int32 → Mem → Prop) (M : Mem) (v1 : Int32) (v2 : Int32) : Prop :=
 wp_X6_isDigitBelow (fun r1 M2 =>
  (r1 = 0 →
   wp_X6_takesIf (fun r3 M4 =>
    zb r3 ∧ Post r3 M4) M2 0) ∧
  (¬ r1 = 0 →
   ((v1 - 48) = (rd M2 1 6) →
    wp_X6_takesIf (fun r5 M6 =>
     zb r5 ∧ Post r5 M6) M2 0) ∧
   (¬ (v1 - 48) = (rd M2 1 6) →
    wp_X6_takesIf (fun r7 M8 =>
     zb r7 ∧ Post r7 M8) M2 1))) M v1 v2
theorem w_X6_takesOther (E : Ek) (l : Launch) {v1 : Int32} {v2 : Int32} {M : Mem} {Post : Int32 → Mem → Prop} (h : wp_X6_takesOther Post M v1 v2) : ctI E l yX6_takesOther cX6_takesOther 3 (some .boolean) 2 [.ref (ad E 1), .int v1, .int v2] M Post := by
  refine ct_of (by decide) (Nat.le_of_ble_eq_true rfl) (fun x X hQ => ?_)
  change G E x M 0 [(0, .ref (ad E 1)), (1, .int v1), (2, .int v2)] []
  refine g_aload_n X dX6_takesOther_0 rfl 0 rfl ?_
  refine g_iload_n X dX6_takesOther_1 rfl 1 rfl ?_
  refine g_iload_n X dX6_takesOther_2 rfl 2 rfl ?_
  refine cl_X6_88 X (by decide) (Nat.le_of_ble_eq_true rfl) dX6_takesOther_3 h (fun r1 M2 h => ?_)
  refine g_ifeq (tgt := 24) X dX6_takesOther_6 (by decide) h (fun h => ?_) (fun h => ?_)
  · refine g_iconst (v := 0) X dX6_takesOther_24 (by decide) ?_
    refine cl_X6_63 X (by decide) (Nat.le_of_ble_eq_true rfl) dX6_takesOther_25 h (fun r3 M4 h => ?_)
    exact g_zret X hQ dX6_takesOther_28 h
  · refine g_iload_n X dX6_takesOther_9 rfl 1 rfl ?_
    refine g_bipush (v := 48) X dX6_takesOther_10 (by decide) ?_
    refine g_isub X dX6_takesOther_12 ?_
    refine g_aload_n X dX6_takesOther_13 rfl 0 rfl ?_
    refine fg_X6_25 X dX6_takesOther_14 ?_
    refine g_icmpeq (tgt := 24) X dX6_takesOther_17 (by decide) h (fun h => ?_) (fun h => ?_)
    · refine g_iconst (v := 0) X dX6_takesOther_24 (by decide) ?_
      refine cl_X6_63 X (by decide) (Nat.le_of_ble_eq_true rfl) dX6_takesOther_25 h (fun r5 M6 h => ?_)
      exact g_zret X hQ dX6_takesOther_28 h
    · refine g_iconst (v := 1) X dX6_takesOther_20 (by decide) ?_
      refine g_goto (tgt := 25) X dX6_takesOther_21 (by decide) ?_
      refine cl_X6_63 X (by decide) (Nat.le_of_ble_eq_true rfl) dX6_takesOther_25 h (fun r7 M8 h => ?_)
      exact g_zret X hQ dX6_takesOther_28 h
theorem cl_X6_75 {E : Ek} {x : MC} {cc : ByteArray} {nL hm pc : Nat} {M : Mem} {lv : List (Nat × Value)} {st : List Value} (X : Cx E x cc nL RX6 hm) {v1 : Int32} {v2 : Int32} {Post : Int32 → Mem → Prop} (hr : 2 < hm) (hW : (st.map fun v => v.category).sum ≤ 8) (hd : decode cc pc = .ok (.invokevirtual 75, 3)) (h : wp_X6_takesOther Post M v1 v2) (kk : ∀ r M1, Post r M1 → G E x M1 (pc + 3) lv (.int r :: st)) : G E x M pc lv (.int v2 :: .int v1 :: .ref (ad E 1) :: st) := k_I (fun hP hS hL => run_V X (w_X6_takesOther E (xl x)  h) cw_X6_takesOther m72 m73 m74 (⟨by decide, fun E f h => ⟨_, _, _, rfl, rfl, rfl⟩⟩ : OC 1 RX6) hr rfl hd hW hP hS hL) kk
theorem cw_J0_isLatin1_aae02 : CW yJ0_isLatin1_aae02 cJ0_isLatin1_aae02 1 (some .boolean) 0 := ⟨m32, m33, Nat.le_of_ble_eq_true rfl, by decide +kernel⟩
def wp_J0_isLatin1_aae02 (Post : Int32 → Mem → Prop) (M : Mem) (k0 : Nat) : Prop :=
 ((1 : Int32) = 0 →
  Post 0 M) ∧
 (¬ (1 : Int32) = 0 →
  (¬ (0 : Int32) = 0 →
   Post 0 M) ∧
  ((0 : Int32) = 0 →
   Post 1 M))
theorem w_J0_isLatin1_aae02 (E : Ek) (l : Launch) {k0 : Nat} (hk0 : k0 < 2) {M : Mem} {Post : Int32 → Mem → Prop} (h : wp_J0_isLatin1_aae02 Post M k0) : ctI E l yJ0_isLatin1_aae02 cJ0_isLatin1_aae02 1 (some .boolean) 1 [.ref (eK E k0)] M Post := by
  refine ct_of (by decide) (Nat.le_of_ble_eq_true rfl) (fun x X hQ => ?_)
  change G E x M 0 [(0, .ref (eK E k0))] []
  refine g_scmp X m30 dJ0_isLatin1_aae02_0 ?_
  refine g_ifeq (tgt := 17) X dJ0_isLatin1_aae02_3 (by decide) h (fun h => ?_) (fun h => ?_)
  · refine g_iconst (v := 0) X dJ0_isLatin1_aae02_17 (by decide) ?_
    exact g_zret X hQ dJ0_isLatin1_aae02_18 ⟨Or.inl rfl, h⟩
  · refine g_aload_n X dJ0_isLatin1_aae02_6 rfl 0 rfl ?_
    refine g_scod X hk0 m31 dJ0_isLatin1_aae02_7 ?_
    refine g_ifne (tgt := 17) X dJ0_isLatin1_aae02_10 (by decide) h (fun h => ?_) (fun h => ?_)
    · refine g_iconst (v := 0) X dJ0_isLatin1_aae02_17 (by decide) ?_
      exact g_zret X hQ dJ0_isLatin1_aae02_18 ⟨Or.inl rfl, h⟩
    · refine g_iconst (v := 1) X dJ0_isLatin1_aae02_13 (by decide) ?_
      refine g_goto (tgt := 18) X dJ0_isLatin1_aae02_14 (by decide) ?_
      exact g_zret X hQ dJ0_isLatin1_aae02_18 ⟨Or.inr rfl, h⟩
theorem cl_J0_492 {E : Ek} {x : MC} {cc : ByteArray} {nL hm pc : Nat} {M : Mem} {lv : List (Nat × Value)} {st : List Value} (X : Cx E x cc nL RJ0 hm) {k0 : Nat} (hk0 : k0 < 2) {Post : Int32 → Mem → Prop} (hr : 1 < hm) (hW : (st.map fun v => v.category).sum ≤ 8) (hd : decode cc pc = .ok (.invokevirtual 492, 3)) (h : wp_J0_isLatin1_aae02 Post M k0) (kk : ∀ r M1, Post r M1 → G E x M1 (pc + 3) lv (.int r :: st)) : G E x M pc lv (.ref (eK E k0) :: st) := k_I (fun hP hS hL => run_VA X (w_J0_isLatin1_aae02 E (xl x) hk0 h) cw_J0_isLatin1_aae02 m56 m57 m58 hr rfl hd hW (vk_recv X.sr.1 hk0 hS) hP hS hL) kk
theorem cw_J0_coder_7d493 : CW yJ0_coder_7d493 cJ0_coder_7d493 1 (some .byte) 0 := ⟨m34, m33, Nat.le_of_ble_eq_true rfl, by decide +kernel⟩
def wp_J0_coder_7d493 (Post : Int32 → Mem → Prop) (M : Mem) (k0 : Nat) : Prop :=
 ((1 : Int32) = 0 →
  narrow .byte (.int 1) = .int 1 ∧ Post 1 M) ∧
 (¬ (1 : Int32) = 0 →
  narrow .byte (.int 0) = .int 0 ∧ Post 0 M)
theorem w_J0_coder_7d493 (E : Ek) (l : Launch) {k0 : Nat} (hk0 : k0 < 2) {M : Mem} {Post : Int32 → Mem → Prop} (h : wp_J0_coder_7d493 Post M k0) : ctI E l yJ0_coder_7d493 cJ0_coder_7d493 1 (some .byte) 1 [.ref (eK E k0)] M Post := by
  refine ct_of (by decide) (Nat.le_of_ble_eq_true rfl) (fun x X hQ => ?_)
  change G E x M 0 [(0, .ref (eK E k0))] []
  refine g_scmp X m30 dJ0_coder_7d493_0 ?_
  refine g_ifeq (tgt := 13) X dJ0_coder_7d493_3 (by decide) h (fun h => ?_) (fun h => ?_)
  · refine g_iconst (v := 1) X dJ0_coder_7d493_13 (by decide) ?_
    exact g_bret X hQ dJ0_coder_7d493_14 h
  · refine g_aload_n X dJ0_coder_7d493_6 rfl 0 rfl ?_
    refine g_scod X hk0 m31 dJ0_coder_7d493_7 ?_
    refine g_goto (tgt := 14) X dJ0_coder_7d493_10 (by decide) ?_
    exact g_bret X hQ dJ0_coder_7d493_14 h
theorem cl_J0_335 {E : Ek} {x : MC} {cc : ByteArray} {nL hm pc : Nat} {M : Mem} {lv : List (Nat × Value)} {st : List Value} (X : Cx E x cc nL RJ0 hm) {k0 : Nat} (hk0 : k0 < 2) {Post : Int32 → Mem → Prop} (hr : 1 < hm) (hW : (st.map fun v => v.category).sum ≤ 8) (hd : decode cc pc = .ok (.invokevirtual 335, 3)) (h : wp_J0_coder_7d493 Post M k0) (kk : ∀ r M1, Post r M1 → G E x M1 (pc + 3) lv (.int r :: st)) : G E x M pc lv (.ref (eK E k0) :: st) := k_I (fun hP hS hL => run_VA X (w_J0_coder_7d493 E (xl x) hk0 h) cw_J0_coder_7d493 m36 m37 m38 hr rfl hd hW (vk_recv X.sr.1 hk0 hS) hP hS hL) kk
theorem cw_J0_length_8abf5 : CW yJ0_length_8abf5 cJ0_length_8abf5 1 (some .int) 0 := ⟨m39, m33, Nat.le_of_ble_eq_true rfl, by decide +kernel⟩
def wp_J0_length_8abf5 (Post : Int32 → Mem → Prop) (M : Mem) (k0 : Nat) : Prop :=
 wp_J0_coder_7d493 (fun r1 M2 =>
  Post ((Int32.ofNat (slen k0)) >>> (r1 &&& 31)) M2) M k0
theorem w_J0_length_8abf5 (E : Ek) (l : Launch) {k0 : Nat} (hk0 : k0 < 2) {M : Mem} {Post : Int32 → Mem → Prop} (h : wp_J0_length_8abf5 Post M k0) : ctI E l yJ0_length_8abf5 cJ0_length_8abf5 1 (some .int) 2 [.ref (eK E k0)] M Post := by
  refine ct_of (by decide) (Nat.le_of_ble_eq_true rfl) (fun x X hQ => ?_)
  change G E x M 0 [(0, .ref (eK E k0))] []
  refine g_aload_n X dJ0_length_8abf5_0 rfl 0 rfl ?_
  refine g_sval X hk0 m35 dJ0_length_8abf5_1 ?_
  refine g_blen X hk0 dJ0_length_8abf5_4 ?_
  refine g_aload_n X dJ0_length_8abf5_5 rfl 0 rfl ?_
  refine cl_J0_335 X hk0 (by decide) (Nat.le_of_ble_eq_true rfl) dJ0_length_8abf5_6 h (fun r1 M2 h => ?_)
  refine g_ishr X dJ0_length_8abf5_9 ?_
  exact g_iret X hQ dJ0_length_8abf5_10 h
theorem cl_J0_505 {E : Ek} {x : MC} {cc : ByteArray} {nL hm pc : Nat} {M : Mem} {lv : List (Nat × Value)} {st : List Value} (X : Cx E x cc nL RJ0 hm) {k0 : Nat} (hk0 : k0 < 2) {Post : Int32 → Mem → Prop} (hr : 2 < hm) (hW : (st.map fun v => v.category).sum ≤ 8) (hd : decode cc pc = .ok (.invokevirtual 505, 3)) (h : wp_J0_length_8abf5 Post M k0) (kk : ∀ r M1, Post r M1 → G E x M1 (pc + 3) lv (.int r :: st)) : G E x M pc lv (.ref (eK E k0) :: st) := k_I (fun hP hS hL => run_VA X (w_J0_length_8abf5 E (xl x) hk0 h) cw_J0_length_8abf5 m59 m60 m61 hr rfl hd hW (vk_recv X.sr.1 hk0 hS) hP hS hL) kk
theorem cw_J1_canEncode_9a6ad : CW yJ1_canEncode_9a6ad cJ1_canEncode_9a6ad 1 (some .boolean) 1 := ⟨m40, m41, Nat.le_of_ble_eq_true rfl, by decide +kernel⟩
def wp_J1_canEncode_9a6ad (Post : Int32 → Mem → Prop) (M : Mem) (v0 : Int32) : Prop :=
 (v0 < 0 →
  Post 0 M) ∧
 (¬ v0 < 0 →
  (255 < v0 →
   Post 0 M) ∧
  (¬ 255 < v0 →
   Post 1 M))
theorem w_J1_canEncode_9a6ad (E : Ek) (l : Launch) {v0 : Int32} {M : Mem} {Post : Int32 → Mem → Prop} (h : wp_J1_canEncode_9a6ad Post M v0) : ctI E l yJ1_canEncode_9a6ad cJ1_canEncode_9a6ad 1 (some .boolean) 1 [.int v0] M Post := by
  refine ct_of (by decide) (Nat.le_of_ble_eq_true rfl) (fun x X hQ => ?_)
  change G E x M 0 [(0, .int v0)] []
  refine g_iload_n X dJ1_canEncode_9a6ad_0 rfl 0 rfl ?_
  refine g_iflt (tgt := 15) X dJ1_canEncode_9a6ad_1 (by decide) h (fun h => ?_) (fun h => ?_)
  · refine g_iconst (v := 0) X dJ1_canEncode_9a6ad_15 (by decide) ?_
    exact g_zret X hQ dJ1_canEncode_9a6ad_16 ⟨Or.inl rfl, h⟩
  · refine g_iload_n X dJ1_canEncode_9a6ad_4 rfl 0 rfl ?_
    refine g_sipush (v := 255) X dJ1_canEncode_9a6ad_5 (by decide) ?_
    refine g_icmpgt (tgt := 15) X dJ1_canEncode_9a6ad_8 (by decide) h (fun h => ?_) (fun h => ?_)
    · refine g_iconst (v := 0) X dJ1_canEncode_9a6ad_15 (by decide) ?_
      exact g_zret X hQ dJ1_canEncode_9a6ad_16 ⟨Or.inl rfl, h⟩
    · refine g_iconst (v := 1) X dJ1_canEncode_9a6ad_11 (by decide) ?_
      refine g_goto (tgt := 16) X dJ1_canEncode_9a6ad_12 (by decide) ?_
      exact g_zret X hQ dJ1_canEncode_9a6ad_16 ⟨Or.inr rfl, h⟩
theorem cl_J1_88 {E : Ek} {x : MC} {cc : ByteArray} {nL hm pc : Nat} {M : Mem} {lv : List (Nat × Value)} {st : List Value} (X : Cx E x cc nL RJ1 hm) {v0 : Int32} {Post : Int32 → Mem → Prop} (hr : 1 < hm) (hW : (st.map fun v => v.category).sum ≤ 8) (hd : decode cc pc = .ok (.invokestatic 88, 3)) (h : wp_J1_canEncode_9a6ad Post M v0) (kk : ∀ r M1, Post r M1 → G E x M1 (pc + 3) lv (.int r :: st)) : G E x M pc lv (.int v0 :: st) := k_I (fun hP hS hL => run_S X (w_J1_canEncode_9a6ad E (xl x)  h) cw_J1_canEncode_9a6ad m43 m44 hr rfl hd hW hP hS hL) kk
theorem cw_J1_indexOfChar_4cfef : CW yJ1_indexOfChar_4cfef cJ1_indexOfChar_4cfef 6 (some .int) 4 := ⟨m42, m41, Nat.le_of_ble_eq_true rfl, by decide +kernel⟩
def wp_J1_indexOfChar_4cfef_b7 (Post : Int32 → Mem → Prop) (k0 : Nat) (v1 : Int32) (v2 : Int32) (v3 : Int32) (P7 : Mem → Int32 → Int32 → Prop) (M : Mem) (v4 : Int32) (v5 : Int32) : Prop :=
 (v3 ≤ v5 →
  Post (-1) M) ∧
 (¬ v3 ≤ v5 →
  vp_in v5 (slen k0) ∧
  (¬ (sbyt k0 v5.toNatClampNeg) = v4 →
   ∀ x5_2 : Int32, x5_2 = v5 + 1 →
   P7 M v4 x5_2) ∧
  ((sbyt k0 v5.toNatClampNeg) = v4 →
   Post v5 M))
def wp_J1_indexOfChar_4cfef (Post : Int32 → Mem → Prop) (M : Mem) (k0 : Nat) (v1 : Int32) (v2 : Int32) (v3 : Int32) : Prop :=
 ∀ (P7 : Mem → Int32 → Int32 → Prop) ,
  (∀ (M : Mem) (v4 : Int32) (v5 : Int32), wp_J1_indexOfChar_4cfef_b7 Post k0 v1 v2 v3 P7 M v4 v5 → P7 M v4 v5) →
 ∀ x4_1 : Int32, x4_1 = v1.toInt8.toInt32 →
 P7 M x4_1 v2
theorem k_J1_indexOfChar_4cfef_b7 {E : Ek} {x : MC} (X : Cx E x cJ1_indexOfChar_4cfef 6 RJ1 1) {Post : Int32 → Mem → Prop} (hQ : QI E x Post (some .int)) {k0 : Nat} {v1 : Int32} {v2 : Int32} {v3 : Int32} (hk0 : k0 < 2) {M : Mem} {v4 : Int32} {v5 : Int32} (h : wp_J1_indexOfChar_4cfef_b7 Post k0 v1 v2 v3 (fun M v4 v5 => G E x M 7 [(0, .ref (eV E k0)), (3, .int v3), (4, .int v4), (5, .int v5)] []) M v4 v5) : G E x M 7 [(0, .ref (eV E k0)), (3, .int v3), (4, .int v4), (5, .int v5)] [] := by
  refine g_iload X dJ1_indexOfChar_4cfef_7 3 rfl ?_
  refine g_iload_n X dJ1_indexOfChar_4cfef_9 rfl 1 rfl ?_
  refine g_icmpge (tgt := 31) X dJ1_indexOfChar_4cfef_10 (by decide) h (fun h => ?_) (fun h => ?_)
  · refine g_iconst (v := (-1)) X dJ1_indexOfChar_4cfef_31 (by decide) ?_
    exact g_iret X hQ dJ1_indexOfChar_4cfef_32 h
  · refine g_aload_n X dJ1_indexOfChar_4cfef_13 rfl 0 rfl ?_
    refine g_iload X dJ1_indexOfChar_4cfef_14 3 rfl ?_
    refine g_bald X hk0 dJ1_indexOfChar_4cfef_16 h (fun h => ?_)
    refine g_iload X dJ1_indexOfChar_4cfef_17 2 rfl ?_
    refine g_icmpne (tgt := 25) X dJ1_indexOfChar_4cfef_19 (by decide) h (fun h => ?_) (fun h => ?_)
    · refine g_iinc (w := 1) X dJ1_indexOfChar_4cfef_25 3 rfl (by decide) (Nat.le_of_ble_eq_true rfl) rfl (fun x5_2 => [(0, .ref (eV E k0)), (3, .int v3), (4, .int v4), (5, .int x5_2)]) (fun _ => rfl) h (fun x5_2 h => ?_)
      refine g_goto (tgt := 7) X dJ1_indexOfChar_4cfef_28 (by decide) ?_
      exact h
    · refine g_iload X dJ1_indexOfChar_4cfef_22 3 rfl ?_
      exact g_iret X hQ dJ1_indexOfChar_4cfef_24 h
theorem w_J1_indexOfChar_4cfef (E : Ek) (l : Launch) {k0 : Nat} {v1 : Int32} {v2 : Int32} {v3 : Int32} (hk0 : k0 < 2) {M : Mem} {Post : Int32 → Mem → Prop} (h : wp_J1_indexOfChar_4cfef Post M k0 v1 v2 v3) : ctI E l yJ1_indexOfChar_4cfef cJ1_indexOfChar_4cfef 6 (some .int) 1 [.ref (eV E k0), .int v1, .int v2, .int v3] M Post := by
  refine ct_of (by decide) (Nat.le_of_ble_eq_true rfl) (fun x X hQ => ?_)
  have h := h (fun M v4 v5 => G E x M 7 [(0, .ref (eV E k0)), (3, .int v3), (4, .int v4), (5, .int v5)] []) (fun M v4 v5 h => k_J1_indexOfChar_4cfef_b7 X hQ hk0 h)
  change G E x M 0 [(0, .ref (eV E k0)), (1, .int v1), (2, .int v2), (3, .int v3)] []
  refine g_iload_n X dJ1_indexOfChar_4cfef_0 rfl 1 rfl ?_
  refine g_i2b X dJ1_indexOfChar_4cfef_1 ?_
  refine g_nm h (fun x4_1 h => ?_)
  refine g_istore (lv' := [(0, .ref (eV E k0)), (1, .int v1), (2, .int v2), (3, .int v3), (4, .int x4_1)]) X dJ1_indexOfChar_4cfef_2 (Nat.le_of_ble_eq_true rfl) rfl rfl ?_
  refine g_iload_n X dJ1_indexOfChar_4cfef_4 rfl 2 rfl ?_
  refine g_istore (lv' := [(0, .ref (eV E k0)), (1, .int v1), (2, .int v2), (3, .int v3), (4, .int x4_1), (5, .int v2)]) X dJ1_indexOfChar_4cfef_5 (Nat.le_of_ble_eq_true rfl) rfl rfl ?_
  exact g_sub [0, 3, 4, 5] rfl h
theorem cl_J1_95 {E : Ek} {x : MC} {cc : ByteArray} {nL hm pc : Nat} {M : Mem} {lv : List (Nat × Value)} {st : List Value} (X : Cx E x cc nL RJ1 hm) {k0 : Nat} {v1 : Int32} {v2 : Int32} {v3 : Int32} (hk0 : k0 < 2) {Post : Int32 → Mem → Prop} (hr : 1 < hm) (hW : (st.map fun v => v.category).sum ≤ 8) (hd : decode cc pc = .ok (.invokestatic 95, 3)) (h : wp_J1_indexOfChar_4cfef Post M k0 v1 v2 v3) (kk : ∀ r M1, Post r M1 → G E x M1 (pc + 3) lv (.int r :: st)) : G E x M pc lv (.int v3 :: .int v2 :: .int v1 :: .ref (eV E k0) :: st) := k_I (fun hP hS hL => run_S X (w_J1_indexOfChar_4cfef E (xl x) hk0 h) cw_J1_indexOfChar_4cfef m53 m54 hr rfl hd hW hP hS hL) kk
theorem cw_J1_indexOf_4cfef : CW yJ1_indexOf_4cfef cJ1_indexOf_4cfef 4 (some .int) 4 := ⟨m55, m41, Nat.le_of_ble_eq_true rfl, by decide +kernel⟩
def wp_J1_indexOf_4cfef (Post : Int32 → Mem → Prop) (M : Mem) (k0 : Nat) (v1 : Int32) (v2 : Int32) (v3 : Int32) : Prop :=
 wp_J1_canEncode_9a6ad (fun r1 M2 =>
  (¬ r1 = 0 →
   ∀ x2_3 : Int32, x2_3 = (if v2 < 0 then 0 else v2) →
   ∀ x3_4 : Int32, x3_4 = (if (Int32.ofNat (slen k0)) < v3 then (Int32.ofNat (slen k0)) else v3) →
   (x2_3 < x3_4 →
    wp_J1_indexOfChar_4cfef (fun r5 M6 =>
     Post r5 M6) M2 k0 v1 x2_3 x3_4) ∧
   (¬ x2_3 < x3_4 →
    Post (-1) M2)) ∧
  (r1 = 0 →
   Post (-1) M2)) M v1
theorem w_J1_indexOf_4cfef (E : Ek) (l : Launch) {k0 : Nat} {v1 : Int32} {v2 : Int32} {v3 : Int32} (hk0 : k0 < 2) {M : Mem} {Post : Int32 → Mem → Prop} (h : wp_J1_indexOf_4cfef Post M k0 v1 v2 v3) : ctI E l yJ1_indexOf_4cfef cJ1_indexOf_4cfef 4 (some .int) 2 [.ref (eV E k0), .int v1, .int v2, .int v3] M Post := by
  refine ct_of (by decide) (Nat.le_of_ble_eq_true rfl) (fun x X hQ => ?_)
  change G E x M 0 [(0, .ref (eV E k0)), (1, .int v1), (2, .int v2), (3, .int v3)] []
  refine g_iload_n X dJ1_indexOf_4cfef_0 rfl 1 rfl ?_
  refine cl_J1_88 X (by decide) (Nat.le_of_ble_eq_true rfl) dJ1_indexOf_4cfef_1 h (fun r1 M2 h => ?_)
  refine g_ifne (tgt := 9) X dJ1_indexOf_4cfef_4 (by decide) h (fun h => ?_) (fun h => ?_)
  · refine g_iload_n X dJ1_indexOf_4cfef_9 rfl 2 rfl ?_
    refine g_iconst (v := 0) X dJ1_indexOf_4cfef_10 (by decide) ?_
    refine g_mmax X dJ1_indexOf_4cfef_11 ma45 ma46 ma48 ma47 (Nat.le_of_ble_eq_true rfl) (Nat.le_of_ble_eq_true rfl) ?_
    refine g_nm h (fun x2_3 h => ?_)
    refine g_istore_n (lv' := [(0, .ref (eV E k0)), (1, .int v1), (2, .int x2_3), (3, .int v3)]) X dJ1_indexOf_4cfef_14 rfl (Nat.le_of_ble_eq_true rfl) rfl rfl ?_
    refine g_iload_n X dJ1_indexOf_4cfef_15 rfl 3 rfl ?_
    refine g_aload_n X dJ1_indexOf_4cfef_16 rfl 0 rfl ?_
    refine g_blen X hk0 dJ1_indexOf_4cfef_17 ?_
    refine g_mmin X dJ1_indexOf_4cfef_18 ma49 ma50 ma52 ma51 (Nat.le_of_ble_eq_true rfl) (Nat.le_of_ble_eq_true rfl) ?_
    refine g_nm h (fun x3_4 h => ?_)
    refine g_istore_n (lv' := [(0, .ref (eV E k0)), (1, .int v1), (2, .int x2_3), (3, .int x3_4)]) X dJ1_indexOf_4cfef_21 rfl (Nat.le_of_ble_eq_true rfl) rfl rfl ?_
    refine g_iload_n X dJ1_indexOf_4cfef_22 rfl 2 rfl ?_
    refine g_iload_n X dJ1_indexOf_4cfef_23 rfl 3 rfl ?_
    refine g_icmplt (tgt := 29) X dJ1_indexOf_4cfef_24 (by decide) h (fun h => ?_) (fun h => ?_)
    · refine g_aload_n X dJ1_indexOf_4cfef_29 rfl 0 rfl ?_
      refine g_iload_n X dJ1_indexOf_4cfef_30 rfl 1 rfl ?_
      refine g_iload_n X dJ1_indexOf_4cfef_31 rfl 2 rfl ?_
      refine g_iload_n X dJ1_indexOf_4cfef_32 rfl 3 rfl ?_
      refine cl_J1_95 X hk0 (by decide) (Nat.le_of_ble_eq_true rfl) dJ1_indexOf_4cfef_33 h (fun r5 M6 h => ?_)
      exact g_iret X hQ dJ1_indexOf_4cfef_36 h
    · refine g_iconst (v := (-1)) X dJ1_indexOf_4cfef_27 (by decide) ?_
      exact g_iret X hQ dJ1_indexOf_4cfef_28 h
  · refine g_iconst (v := (-1)) X dJ1_indexOf_4cfef_7 (by decide) ?_
    exact g_iret X hQ dJ1_indexOf_4cfef_8 h
theorem cl_J0_637 {E : Ek} {x : MC} {cc : ByteArray} {nL hm pc : Nat} {M : Mem} {lv : List (Nat × Value)} {st : List Value} (X : Cx E x cc nL RJ0 hm) {k0 : Nat} {v1 : Int32} {v2 : Int32} {v3 : Int32} (hk0 : k0 < 2) {Post : Int32 → Mem → Prop} (hr : 2 < hm) (hW : (st.map fun v => v.category).sum ≤ 8) (hd : decode cc pc = .ok (.invokestatic 637, 3)) (h : wp_J1_indexOf_4cfef Post M k0 v1 v2 v3) (kk : ∀ r M1, Post r M1 → G E x M1 (pc + 3) lv (.int r :: st)) : G E x M pc lv (.int v3 :: .int v2 :: .int v1 :: .ref (eV E k0) :: st) := k_I (fun hP hS hL => run_S X (w_J1_indexOf_4cfef E (xl x) hk0 h) cw_J1_indexOf_4cfef m62 m63 hr rfl hd hW hP hS hL) kk
theorem cw_J0_indexOf_7cf53 : CW yJ0_indexOf_7cf53 cJ0_indexOf_7cf53 3 (some .int) 2 := ⟨m64, m33, Nat.le_of_ble_eq_true rfl, by decide +kernel⟩
def wp_J0_indexOf_7cf53 (Post : Int32 → Mem → Prop) (M : Mem) (k0 : Nat) (v1 : Int32) (v2 : Int32) : Prop :=
 wp_J0_isLatin1_aae02 (fun r1 M2 =>
  (r1 = 0 →
   False) ∧
  (¬ r1 = 0 →
   wp_J0_length_8abf5 (fun r3 M4 =>
    wp_J1_indexOf_4cfef (fun r5 M6 =>
     Post r5 M6) M4 k0 v1 v2 r3) M2 k0)) M k0
theorem w_J0_indexOf_7cf53 (E : Ek) (l : Launch) {k0 : Nat} {v1 : Int32} {v2 : Int32} (hk0 : k0 < 2) {M : Mem} {Post : Int32 → Mem → Prop} (h : wp_J0_indexOf_7cf53 Post M k0 v1 v2) : ctI E l yJ0_indexOf_7cf53 cJ0_indexOf_7cf53 3 (some .int) 3 [.ref (eK E k0), .int v1, .int v2] M Post := by
  refine ct_of (by decide) (Nat.le_of_ble_eq_true rfl) (fun x X hQ => ?_)
  change G E x M 0 [(0, .ref (eK E k0)), (1, .int v1), (2, .int v2)] []
  refine g_aload_n X dJ0_indexOf_7cf53_0 rfl 0 rfl ?_
  refine cl_J0_492 X hk0 (by decide) (Nat.le_of_ble_eq_true rfl) dJ0_indexOf_7cf53_1 h (fun r1 M2 h => ?_)
  refine g_ifeq (tgt := 23) X dJ0_indexOf_7cf53_4 (by decide) h (fun h => ?_) (fun h => ?_)
  · exact h.elim
  · refine g_aload_n X dJ0_indexOf_7cf53_7 rfl 0 rfl ?_
    refine g_sval X hk0 m35 dJ0_indexOf_7cf53_8 ?_
    refine g_iload_n X dJ0_indexOf_7cf53_11 rfl 1 rfl ?_
    refine g_iload_n X dJ0_indexOf_7cf53_12 rfl 2 rfl ?_
    refine g_aload_n X dJ0_indexOf_7cf53_13 rfl 0 rfl ?_
    refine cl_J0_505 X hk0 (by decide) (Nat.le_of_ble_eq_true rfl) dJ0_indexOf_7cf53_14 h (fun r3 M4 h => ?_)
    refine cl_J0_637 X hk0 (by decide) (Nat.le_of_ble_eq_true rfl) dJ0_indexOf_7cf53_17 h (fun r5 M6 h => ?_)
    refine g_goto (tgt := 36) X dJ0_indexOf_7cf53_20 (by decide) ?_
    exact g_iret X hQ dJ0_indexOf_7cf53_36 h
theorem cl_J0_633 {E : Ek} {x : MC} {cc : ByteArray} {nL hm pc : Nat} {M : Mem} {lv : List (Nat × Value)} {st : List Value} (X : Cx E x cc nL RJ0 hm) {k0 : Nat} {v1 : Int32} {v2 : Int32} (hk0 : k0 < 2) {Post : Int32 → Mem → Prop} (hr : 3 < hm) (hW : (st.map fun v => v.category).sum ≤ 8) (hd : decode cc pc = .ok (.invokevirtual 633, 3)) (h : wp_J0_indexOf_7cf53 Post M k0 v1 v2) (kk : ∀ r M1, Post r M1 → G E x M1 (pc + 3) lv (.int r :: st)) : G E x M pc lv (.int v2 :: .int v1 :: .ref (eK E k0) :: st) := k_I (fun hP hS hL => run_VA X (w_J0_indexOf_7cf53 E (xl x) hk0 h) cw_J0_indexOf_7cf53 m65 m66 m67 hr rfl hd hW (vk_recv X.sr.1 hk0 hS) hP hS hL) kk
theorem cw_J0_indexOf_0f7a4 : CW yJ0_indexOf_0f7a4 cJ0_indexOf_0f7a4 2 (some .int) 1 := ⟨m68, m33, Nat.le_of_ble_eq_true rfl, by decide +kernel⟩
def wp_J0_indexOf_0f7a4 (Post : Int32 → Mem → Prop) (M : Mem) (k0 : Nat) (v1 : Int32) : Prop :=
 wp_J0_indexOf_7cf53 (fun r1 M2 =>
  Post r1 M2) M k0 v1 0
theorem w_J0_indexOf_0f7a4 (E : Ek) (l : Launch) {k0 : Nat} {v1 : Int32} (hk0 : k0 < 2) {M : Mem} {Post : Int32 → Mem → Prop} (h : wp_J0_indexOf_0f7a4 Post M k0 v1) : ctI E l yJ0_indexOf_0f7a4 cJ0_indexOf_0f7a4 2 (some .int) 4 [.ref (eK E k0), .int v1] M Post := by
  refine ct_of (by decide) (Nat.le_of_ble_eq_true rfl) (fun x X hQ => ?_)
  change G E x M 0 [(0, .ref (eK E k0)), (1, .int v1)] []
  refine g_aload_n X dJ0_indexOf_0f7a4_0 rfl 0 rfl ?_
  refine g_iload_n X dJ0_indexOf_0f7a4_1 rfl 1 rfl ?_
  refine g_iconst (v := 0) X dJ0_indexOf_0f7a4_2 (by decide) ?_
  refine cl_J0_633 X hk0 (by decide) (Nat.le_of_ble_eq_true rfl) dJ0_indexOf_0f7a4_3 h (fun r1 M2 h => ?_)
  exact g_iret X hQ dJ0_indexOf_0f7a4_6 h
theorem cl_X6_80 {E : Ek} {x : MC} {cc : ByteArray} {nL hm pc : Nat} {M : Mem} {lv : List (Nat × Value)} {st : List Value} (X : Cx E x cc nL RX6 hm) {k0 : Nat} {v1 : Int32} (hk0 : k0 < 2) {Post : Int32 → Mem → Prop} (hr : 4 < hm) (hW : (st.map fun v => v.category).sum ≤ 8) (hd : decode cc pc = .ok (.invokevirtual 80, 3)) (h : wp_J0_indexOf_0f7a4 Post M k0 v1) (kk : ∀ r M1, Post r M1 → G E x M1 (pc + 3) lv (.int r :: st)) : G E x M pc lv (.int v1 :: .ref (eK E k0) :: st) := k_I (fun hP hS hL => run_VA X (w_J0_indexOf_0f7a4 E (xl x) hk0 h) cw_J0_indexOf_0f7a4 m76 m77 m78 hr rfl hd hW (vk_recv X.sr.1 hk0 hS) hP hS hL) kk
theorem cw_X6_takesInDoors : CW yX6_takesInDoors cX6_takesInDoors 2 (some .boolean) 1 := ⟨m79, m3, Nat.le_of_ble_eq_true rfl, by decide +kernel⟩
def wp_X6_takesInDoors (Post : Int32 → Mem → Prop) (M : Mem) (v1 : Int32) : Prop :=
 ((rd M 1 5) = 0 →
  wp_X6_takesFirst (fun r1 M2 =>
   zb r1 ∧ Post r1 M2) M v1 (rd M 1 7)) ∧
 ((rd M 1 5) = 1 →
  wp_X6_takesOther (fun r3 M4 =>
   zb r3 ∧ Post r3 M4) M v1 (rd M 1 7)) ∧
 ((rd M 1 5) = 2 →
  ∀ M5 : Mem, M5 = wr M 1 8 ((rd M 1 8) + 1) →
  wp_J0_indexOf_0f7a4 (fun r6 M7 =>
   (r6 < 0 →
    wp_X6_takesIf (fun r8 M9 =>
     zb r8 ∧ Post r8 M9) M7 0) ∧
   (¬ r6 < 0 →
    wp_X6_takesIf (fun r10 M11 =>
     zb r10 ∧ Post r10 M11) M7 1)) M5 0 v1) ∧
 (¬ (rd M 1 5) = 0 → ¬ (rd M 1 5) = 1 → ¬ (rd M 1 5) = 2 → 
  (¬ v1 = 44 →
   (¬ v1 = 59 →
    Post 0 M) ∧
   (v1 = 59 →
    wp_X6_opens (fun r12 M13 =>
     (r12 = 0 →
      Post 0 M13) ∧
     (¬ r12 = 0 →
      Post 1 M13)) M 2)) ∧
  (v1 = 44 →
   (6 ≤ (rd M 1 8) →
    Post 0 M) ∧
   (¬ 6 ≤ (rd M 1 8) →
    wp_X6_opens (fun r14 M15 =>
     (r14 = 0 →
      Post 0 M15) ∧
     (¬ r14 = 0 →
      Post 1 M15)) M 1)))
theorem w_X6_takesInDoors (E : Ek) (l : Launch) {v1 : Int32} {M : Mem} {Post : Int32 → Mem → Prop} (h : wp_X6_takesInDoors Post M v1) : ctI E l yX6_takesInDoors cX6_takesInDoors 2 (some .boolean) 5 [.ref (ad E 1), .int v1] M Post := by
  refine ct_of (by decide) (Nat.le_of_ble_eq_true rfl) (fun x X hQ => ?_)
  change G E x M 0 [(0, .ref (ad E 1)), (1, .int v1)] []
  refine g_aload_n X dX6_takesInDoors_0 rfl 0 rfl ?_
  refine fg_X6_22 X dX6_takesInDoors_1 ?_
  by_cases c0 : (rd M 1 5) = 0
  · have h := h.1 c0
    refine g_tabI (tgt := 32) X dX6_takesInDoors_4 c0 ⟨⟨by decide, by decide⟩, rfl⟩ (by decide) ?_
    refine g_aload_n X dX6_takesInDoors_32 rfl 0 rfl ?_
    refine g_iload_n X dX6_takesInDoors_33 rfl 1 rfl ?_
    refine g_aload_n X dX6_takesInDoors_34 rfl 0 rfl ?_
    refine fg_X6_28 X dX6_takesInDoors_35 ?_
    refine cl_X6_71 X (by decide) (Nat.le_of_ble_eq_true rfl) dX6_takesInDoors_38 h (fun r1 M2 h => ?_)
    exact g_zret X hQ dX6_takesInDoors_41 h
  by_cases c1 : (rd M 1 5) = 1
  · have h := h.2.1 c1
    refine g_tabI (tgt := 42) X dX6_takesInDoors_4 c1 ⟨⟨by decide, by decide⟩, rfl⟩ (by decide) ?_
    refine g_aload_n X dX6_takesInDoors_42 rfl 0 rfl ?_
    refine g_iload_n X dX6_takesInDoors_43 rfl 1 rfl ?_
    refine g_aload_n X dX6_takesInDoors_44 rfl 0 rfl ?_
    refine fg_X6_28 X dX6_takesInDoors_45 ?_
    refine cl_X6_75 X (by decide) (Nat.le_of_ble_eq_true rfl) dX6_takesInDoors_48 h (fun r3 M4 h => ?_)
    exact g_zret X hQ dX6_takesInDoors_51 h
  by_cases c2 : (rd M 1 5) = 2
  · have h := h.2.2.1 c2
    refine g_tabI (tgt := 52) X dX6_takesInDoors_4 c2 ⟨⟨by decide, by decide⟩, rfl⟩ (by decide) ?_
    refine g_aload_n X dX6_takesInDoors_52 rfl 0 rfl ?_
    refine g_dup X dX6_takesInDoors_53 rfl ?_
    refine fg_X6_31 X dX6_takesInDoors_54 ?_
    refine g_iconst (v := 1) X dX6_takesInDoors_57 (by decide) ?_
    refine g_iadd X dX6_takesInDoors_58 ?_
    refine fp_X6_31 X dX6_takesInDoors_59 h (fun M5 h => ?_)
    refine g_aload_n X dX6_takesInDoors_62 rfl 0 rfl ?_
    refine g_str0 X dX6_takesInDoors_63 ?_
    refine g_iload_n X dX6_takesInDoors_65 rfl 1 rfl ?_
    refine cl_X6_80 X (by decide) (by decide) (Nat.le_of_ble_eq_true rfl) dX6_takesInDoors_66 h (fun r6 M7 h => ?_)
    refine g_iflt (tgt := 76) X dX6_takesInDoors_69 (by decide) h (fun h => ?_) (fun h => ?_)
    · refine g_iconst (v := 0) X dX6_takesInDoors_76 (by decide) ?_
      refine cl_X6_63 X (by decide) (Nat.le_of_ble_eq_true rfl) dX6_takesInDoors_77 h (fun r8 M9 h => ?_)
      exact g_zret X hQ dX6_takesInDoors_80 h
    · refine g_iconst (v := 1) X dX6_takesInDoors_72 (by decide) ?_
      refine g_goto (tgt := 77) X dX6_takesInDoors_73 (by decide) ?_
      refine cl_X6_63 X (by decide) (Nat.le_of_ble_eq_true rfl) dX6_takesInDoors_77 h (fun r10 M11 h => ?_)
      exact g_zret X hQ dX6_takesInDoors_80 h
  have h := h.2.2.2 c0 c1 c2
  refine g_tabO (tgt := 81) X dX6_takesInDoors_4 (by have e0 := lv_neT (a := 0) c0 (by decide); have e1 := lv_neT (a := 1) c1 (by decide); have e2 := lv_neT (a := 2) c2 (by decide); omega) (by decide) ?_
  refine g_iload_n X dX6_takesInDoors_81 rfl 1 rfl ?_
  refine g_bipush (v := 44) X dX6_takesInDoors_82 (by decide) ?_
  refine g_icmpne (tgt := 110) X dX6_takesInDoors_84 (by decide) h (fun h => ?_) (fun h => ?_)
  · refine g_iload_n X dX6_takesInDoors_110 rfl 1 rfl ?_
    refine g_bipush (v := 59) X dX6_takesInDoors_111 (by decide) ?_
    refine g_icmpne (tgt := 128) X dX6_takesInDoors_113 (by decide) h (fun h => ?_) (fun h => ?_)
    · refine g_iconst (v := 0) X dX6_takesInDoors_128 (by decide) ?_
      exact g_zret X hQ dX6_takesInDoors_129 ⟨Or.inl rfl, h⟩
    · refine g_aload_n X dX6_takesInDoors_116 rfl 0 rfl ?_
      refine g_iconst (v := 2) X dX6_takesInDoors_117 (by decide) ?_
      refine cl_X6_67 X (by decide) (Nat.le_of_ble_eq_true rfl) dX6_takesInDoors_118 h (fun r12 M13 h => ?_)
      refine g_ifeq (tgt := 128) X dX6_takesInDoors_121 (by decide) h (fun h => ?_) (fun h => ?_)
      · refine g_iconst (v := 0) X dX6_takesInDoors_128 (by decide) ?_
        exact g_zret X hQ dX6_takesInDoors_129 ⟨Or.inl rfl, h⟩
      · refine g_iconst (v := 1) X dX6_takesInDoors_124 (by decide) ?_
        refine g_goto (tgt := 129) X dX6_takesInDoors_125 (by decide) ?_
        exact g_zret X hQ dX6_takesInDoors_129 ⟨Or.inr rfl, h⟩
  · refine g_aload_n X dX6_takesInDoors_87 rfl 0 rfl ?_
    refine fg_X6_31 X dX6_takesInDoors_88 ?_
    refine g_bipush (v := 6) X dX6_takesInDoors_91 (by decide) ?_
    refine g_icmpge (tgt := 108) X dX6_takesInDoors_93 (by decide) h (fun h => ?_) (fun h => ?_)
    · refine g_iconst (v := 0) X dX6_takesInDoors_108 (by decide) ?_
      exact g_zret X hQ dX6_takesInDoors_109 ⟨Or.inl rfl, h⟩
    · refine g_aload_n X dX6_takesInDoors_96 rfl 0 rfl ?_
      refine g_iconst (v := 1) X dX6_takesInDoors_97 (by decide) ?_
      refine cl_X6_67 X (by decide) (Nat.le_of_ble_eq_true rfl) dX6_takesInDoors_98 h (fun r14 M15 h => ?_)
      refine g_ifeq (tgt := 108) X dX6_takesInDoors_101 (by decide) h (fun h => ?_) (fun h => ?_)
      · refine g_iconst (v := 0) X dX6_takesInDoors_108 (by decide) ?_
        exact g_zret X hQ dX6_takesInDoors_109 ⟨Or.inl rfl, h⟩
      · refine g_iconst (v := 1) X dX6_takesInDoors_104 (by decide) ?_
        refine g_goto (tgt := 109) X dX6_takesInDoors_105 (by decide) ?_
        exact g_zret X hQ dX6_takesInDoors_109 ⟨Or.inr rfl, h⟩
theorem cl_X6_54 {E : Ek} {x : MC} {cc : ByteArray} {nL hm pc : Nat} {M : Mem} {lv : List (Nat × Value)} {st : List Value} (X : Cx E x cc nL RX6 hm) {v1 : Int32} {Post : Int32 → Mem → Prop} (hr : 5 < hm) (hW : (st.map fun v => v.category).sum ≤ 8) (hd : decode cc pc = .ok (.invokevirtual 54, 3)) (h : wp_X6_takesInDoors Post M v1) (kk : ∀ r M1, Post r M1 → G E x M1 (pc + 3) lv (.int r :: st)) : G E x M pc lv (.int v1 :: .ref (ad E 1) :: st) := k_I (fun hP hS hL => run_V X (w_X6_takesInDoors E (xl x)  h) cw_X6_takesInDoors m87 m88 m89 (⟨by decide, fun E f h => ⟨_, _, _, rfl, rfl, rfl⟩⟩ : OC 1 RX6) hr rfl hd hW hP hS hL) kk
theorem cw_X6_takesInPeople : CW yX6_takesInPeople cX6_takesInPeople 2 (some .boolean) 1 := ⟨m81, m3, Nat.le_of_ble_eq_true rfl, by decide +kernel⟩
def wp_X6_takesInPeople (Post : Int32 → Mem → Prop) (M : Mem) (v1 : Int32) : Prop :=
 ((rd M 1 5) = 0 →
  wp_J0_indexOf_0f7a4 (fun r1 M2 =>
   (r1 < 0 →
    wp_X6_takesIf (fun r3 M4 =>
     zb r3 ∧ Post r3 M4) M2 0) ∧
   (¬ r1 < 0 →
    wp_X6_takesIf (fun r5 M6 =>
     zb r5 ∧ Post r5 M6) M2 1)) M 1 v1) ∧
 ((rd M 1 5) = 1 →
  wp_X6_isDigitBelow (fun r7 M8 =>
   wp_X6_takesIf (fun r9 M10 =>
    zb r9 ∧ Post r9 M10) M8 r7) M v1 10) ∧
 ((rd M 1 5) = 2 →
  ∀ M11 : Mem, M11 = wr M 1 9 ((rd M 1 9) + 1) →
  wp_X6_isDigitBelow (fun r12 M13 =>
   wp_X6_takesIf (fun r14 M15 =>
    zb r14 ∧ Post r14 M15) M13 r12) M11 v1 (rd M11 1 7)) ∧
 (¬ (rd M 1 5) = 0 → ¬ (rd M 1 5) = 1 → ¬ (rd M 1 5) = 2 → 
  (¬ v1 = 44 →
   (¬ v1 = 59 →
    Post 0 M) ∧
   (v1 = 59 →
    ((rd M 1 9) < 2 →
     Post 0 M) ∧
    (¬ (rd M 1 9) < 2 →
     wp_X6_opens (fun r16 M17 =>
      (r16 = 0 →
       Post 0 M17) ∧
      (¬ r16 = 0 →
       Post 1 M17)) M 3))) ∧
  (v1 = 44 →
   (4 ≤ (rd M 1 9) →
    Post 0 M) ∧
   (¬ 4 ≤ (rd M 1 9) →
    wp_X6_opens (fun r18 M19 =>
     (r18 = 0 →
      Post 0 M19) ∧
     (¬ r18 = 0 →
      Post 1 M19)) M 2)))
theorem w_X6_takesInPeople (E : Ek) (l : Launch) {v1 : Int32} {M : Mem} {Post : Int32 → Mem → Prop} (h : wp_X6_takesInPeople Post M v1) : ctI E l yX6_takesInPeople cX6_takesInPeople 2 (some .boolean) 5 [.ref (ad E 1), .int v1] M Post := by
  refine ct_of (by decide) (Nat.le_of_ble_eq_true rfl) (fun x X hQ => ?_)
  change G E x M 0 [(0, .ref (ad E 1)), (1, .int v1)] []
  refine g_aload_n X dX6_takesInPeople_0 rfl 0 rfl ?_
  refine fg_X6_22 X dX6_takesInPeople_1 ?_
  by_cases c0 : (rd M 1 5) = 0
  · have h := h.1 c0
    refine g_tabI (tgt := 32) X dX6_takesInPeople_4 c0 ⟨⟨by decide, by decide⟩, rfl⟩ (by decide) ?_
    refine g_aload_n X dX6_takesInPeople_32 rfl 0 rfl ?_
    refine g_str1 X dX6_takesInPeople_33 ?_
    refine g_iload_n X dX6_takesInPeople_35 rfl 1 rfl ?_
    refine cl_X6_80 X (by decide) (by decide) (Nat.le_of_ble_eq_true rfl) dX6_takesInPeople_36 h (fun r1 M2 h => ?_)
    refine g_iflt (tgt := 46) X dX6_takesInPeople_39 (by decide) h (fun h => ?_) (fun h => ?_)
    · refine g_iconst (v := 0) X dX6_takesInPeople_46 (by decide) ?_
      refine cl_X6_63 X (by decide) (Nat.le_of_ble_eq_true rfl) dX6_takesInPeople_47 h (fun r3 M4 h => ?_)
      exact g_zret X hQ dX6_takesInPeople_50 h
    · refine g_iconst (v := 1) X dX6_takesInPeople_42 (by decide) ?_
      refine g_goto (tgt := 47) X dX6_takesInPeople_43 (by decide) ?_
      refine cl_X6_63 X (by decide) (Nat.le_of_ble_eq_true rfl) dX6_takesInPeople_47 h (fun r5 M6 h => ?_)
      exact g_zret X hQ dX6_takesInPeople_50 h
  by_cases c1 : (rd M 1 5) = 1
  · have h := h.2.1 c1
    refine g_tabI (tgt := 51) X dX6_takesInPeople_4 c1 ⟨⟨by decide, by decide⟩, rfl⟩ (by decide) ?_
    refine g_aload_n X dX6_takesInPeople_51 rfl 0 rfl ?_
    refine g_iload_n X dX6_takesInPeople_52 rfl 1 rfl ?_
    refine g_bipush (v := 10) X dX6_takesInPeople_53 (by decide) ?_
    refine cl_X6_88 X (by decide) (Nat.le_of_ble_eq_true rfl) dX6_takesInPeople_55 h (fun r7 M8 h => ?_)
    refine cl_X6_63 X (by decide) (Nat.le_of_ble_eq_true rfl) dX6_takesInPeople_58 h (fun r9 M10 h => ?_)
    exact g_zret X hQ dX6_takesInPeople_61 h
  by_cases c2 : (rd M 1 5) = 2
  · have h := h.2.2.1 c2
    refine g_tabI (tgt := 62) X dX6_takesInPeople_4 c2 ⟨⟨by decide, by decide⟩, rfl⟩ (by decide) ?_
    refine g_aload_n X dX6_takesInPeople_62 rfl 0 rfl ?_
    refine g_dup X dX6_takesInPeople_63 rfl ?_
    refine fg_X6_34 X dX6_takesInPeople_64 ?_
    refine g_iconst (v := 1) X dX6_takesInPeople_67 (by decide) ?_
    refine g_iadd X dX6_takesInPeople_68 ?_
    refine fp_X6_34 X dX6_takesInPeople_69 h (fun M11 h => ?_)
    refine g_aload_n X dX6_takesInPeople_72 rfl 0 rfl ?_
    refine g_iload_n X dX6_takesInPeople_73 rfl 1 rfl ?_
    refine g_aload_n X dX6_takesInPeople_74 rfl 0 rfl ?_
    refine fg_X6_28 X dX6_takesInPeople_75 ?_
    refine cl_X6_88 X (by decide) (Nat.le_of_ble_eq_true rfl) dX6_takesInPeople_78 h (fun r12 M13 h => ?_)
    refine cl_X6_63 X (by decide) (Nat.le_of_ble_eq_true rfl) dX6_takesInPeople_81 h (fun r14 M15 h => ?_)
    exact g_zret X hQ dX6_takesInPeople_84 h
  have h := h.2.2.2 c0 c1 c2
  refine g_tabO (tgt := 85) X dX6_takesInPeople_4 (by have e0 := lv_neT (a := 0) c0 (by decide); have e1 := lv_neT (a := 1) c1 (by decide); have e2 := lv_neT (a := 2) c2 (by decide); omega) (by decide) ?_
  refine g_iload_n X dX6_takesInPeople_85 rfl 1 rfl ?_
  refine g_bipush (v := 44) X dX6_takesInPeople_86 (by decide) ?_
  refine g_icmpne (tgt := 113) X dX6_takesInPeople_88 (by decide) h (fun h => ?_) (fun h => ?_)
  · refine g_iload_n X dX6_takesInPeople_113 rfl 1 rfl ?_
    refine g_bipush (v := 59) X dX6_takesInPeople_114 (by decide) ?_
    refine g_icmpne (tgt := 139) X dX6_takesInPeople_116 (by decide) h (fun h => ?_) (fun h => ?_)
    · refine g_iconst (v := 0) X dX6_takesInPeople_139 (by decide) ?_
      exact g_zret X hQ dX6_takesInPeople_140 ⟨Or.inl rfl, h⟩
    · refine g_aload_n X dX6_takesInPeople_119 rfl 0 rfl ?_
      refine fg_X6_34 X dX6_takesInPeople_120 ?_
      refine g_iconst (v := 2) X dX6_takesInPeople_123 (by decide) ?_
      refine g_icmplt (tgt := 139) X dX6_takesInPeople_124 (by decide) h (fun h => ?_) (fun h => ?_)
      · refine g_iconst (v := 0) X dX6_takesInPeople_139 (by decide) ?_
        exact g_zret X hQ dX6_takesInPeople_140 ⟨Or.inl rfl, h⟩
      · refine g_aload_n X dX6_takesInPeople_127 rfl 0 rfl ?_
        refine g_iconst (v := 3) X dX6_takesInPeople_128 (by decide) ?_
        refine cl_X6_67 X (by decide) (Nat.le_of_ble_eq_true rfl) dX6_takesInPeople_129 h (fun r16 M17 h => ?_)
        refine g_ifeq (tgt := 139) X dX6_takesInPeople_132 (by decide) h (fun h => ?_) (fun h => ?_)
        · refine g_iconst (v := 0) X dX6_takesInPeople_139 (by decide) ?_
          exact g_zret X hQ dX6_takesInPeople_140 ⟨Or.inl rfl, h⟩
        · refine g_iconst (v := 1) X dX6_takesInPeople_135 (by decide) ?_
          refine g_goto (tgt := 140) X dX6_takesInPeople_136 (by decide) ?_
          exact g_zret X hQ dX6_takesInPeople_140 ⟨Or.inr rfl, h⟩
  · refine g_aload_n X dX6_takesInPeople_91 rfl 0 rfl ?_
    refine fg_X6_34 X dX6_takesInPeople_92 ?_
    refine g_iconst (v := 4) X dX6_takesInPeople_95 (by decide) ?_
    refine g_icmpge (tgt := 111) X dX6_takesInPeople_96 (by decide) h (fun h => ?_) (fun h => ?_)
    · refine g_iconst (v := 0) X dX6_takesInPeople_111 (by decide) ?_
      exact g_zret X hQ dX6_takesInPeople_112 ⟨Or.inl rfl, h⟩
    · refine g_aload_n X dX6_takesInPeople_99 rfl 0 rfl ?_
      refine g_iconst (v := 2) X dX6_takesInPeople_100 (by decide) ?_
      refine cl_X6_67 X (by decide) (Nat.le_of_ble_eq_true rfl) dX6_takesInPeople_101 h (fun r18 M19 h => ?_)
      refine g_ifeq (tgt := 111) X dX6_takesInPeople_104 (by decide) h (fun h => ?_) (fun h => ?_)
      · refine g_iconst (v := 0) X dX6_takesInPeople_111 (by decide) ?_
        exact g_zret X hQ dX6_takesInPeople_112 ⟨Or.inl rfl, h⟩
      · refine g_iconst (v := 1) X dX6_takesInPeople_107 (by decide) ?_
        refine g_goto (tgt := 112) X dX6_takesInPeople_108 (by decide) ?_
        exact g_zret X hQ dX6_takesInPeople_112 ⟨Or.inr rfl, h⟩
theorem cl_X6_57 {E : Ek} {x : MC} {cc : ByteArray} {nL hm pc : Nat} {M : Mem} {lv : List (Nat × Value)} {st : List Value} (X : Cx E x cc nL RX6 hm) {v1 : Int32} {Post : Int32 → Mem → Prop} (hr : 5 < hm) (hW : (st.map fun v => v.category).sum ≤ 8) (hd : decode cc pc = .ok (.invokevirtual 57, 3)) (h : wp_X6_takesInPeople Post M v1) (kk : ∀ r M1, Post r M1 → G E x M1 (pc + 3) lv (.int r :: st)) : G E x M pc lv (.int v1 :: .ref (ad E 1) :: st) := k_I (fun hP hS hL => run_V X (w_X6_takesInPeople E (xl x)  h) cw_X6_takesInPeople m90 m91 m92 (⟨by decide, fun E f h => ⟨_, _, _, rfl, rfl, rfl⟩⟩ : OC 1 RX6) hr rfl hd hW hP hS hL) kk
theorem cw_X6_takesInDebts : CW yX6_takesInDebts cX6_takesInDebts 2 (some .boolean) 1 := ⟨m83, m3, Nat.le_of_ble_eq_true rfl, by decide +kernel⟩
def wp_X6_takesInDebts (Post : Int32 → Mem → Prop) (M : Mem) (v1 : Int32) : Prop :=
 ((rd M 1 5) = 0 →
  wp_X6_takesFirst (fun r1 M2 =>
   zb r1 ∧ Post r1 M2) M v1 (rd M 1 9)) ∧
 ((rd M 1 5) = 1 →
  wp_X6_takesOther (fun r3 M4 =>
   zb r3 ∧ Post r3 M4) M v1 (rd M 1 9)) ∧
 ((rd M 1 5) = 2 →
  wp_X6_isDigitBelow (fun r5 M6 =>
   wp_X6_takesIf (fun r7 M8 =>
    zb r7 ∧ Post r7 M8) M6 r5) M v1 (rd M 1 7)) ∧
 ((rd M 1 5) = 3 →
  ∀ M9 : Mem, M9 = wr M 1 10 ((rd M 1 10) + 1) →
  (v1 = 48 →
   wp_X6_takesIf (fun r10 M11 =>
    zb r10 ∧ Post r10 M11) M9 0) ∧
  (¬ v1 = 48 →
   wp_X6_isDigitBelow (fun r12 M13 =>
    (r12 = 0 →
     wp_X6_takesIf (fun r14 M15 =>
      zb r14 ∧ Post r14 M15) M13 0) ∧
    (¬ r12 = 0 →
     wp_X6_takesIf (fun r16 M17 =>
      zb r16 ∧ Post r16 M17) M13 1)) M9 v1 10)) ∧
 (¬ (rd M 1 5) = 0 → ¬ (rd M 1 5) = 1 → ¬ (rd M 1 5) = 2 → ¬ (rd M 1 5) = 3 → 
  (¬ v1 = 44 →
   Post 0 M) ∧
  (v1 = 44 →
   (4 ≤ (rd M 1 10) →
    Post 0 M) ∧
   (¬ 4 ≤ (rd M 1 10) →
    wp_X6_opens (fun r18 M19 =>
     (r18 = 0 →
      Post 0 M19) ∧
     (¬ r18 = 0 →
      Post 1 M19)) M 3)))
theorem w_X6_takesInDebts (E : Ek) (l : Launch) {v1 : Int32} {M : Mem} {Post : Int32 → Mem → Prop} (h : wp_X6_takesInDebts Post M v1) : ctI E l yX6_takesInDebts cX6_takesInDebts 2 (some .boolean) 3 [.ref (ad E 1), .int v1] M Post := by
  refine ct_of (by decide) (Nat.le_of_ble_eq_true rfl) (fun x X hQ => ?_)
  change G E x M 0 [(0, .ref (ad E 1)), (1, .int v1)] []
  refine g_aload_n X dX6_takesInDebts_0 rfl 0 rfl ?_
  refine fg_X6_22 X dX6_takesInDebts_1 ?_
  by_cases c0 : (rd M 1 5) = 0
  · have h := h.1 c0
    refine g_tabI (tgt := 36) X dX6_takesInDebts_4 c0 ⟨⟨by decide, by decide⟩, rfl⟩ (by decide) ?_
    refine g_aload_n X dX6_takesInDebts_36 rfl 0 rfl ?_
    refine g_iload_n X dX6_takesInDebts_37 rfl 1 rfl ?_
    refine g_aload_n X dX6_takesInDebts_38 rfl 0 rfl ?_
    refine fg_X6_34 X dX6_takesInDebts_39 ?_
    refine cl_X6_71 X (by decide) (Nat.le_of_ble_eq_true rfl) dX6_takesInDebts_42 h (fun r1 M2 h => ?_)
    exact g_zret X hQ dX6_takesInDebts_45 h
  by_cases c1 : (rd M 1 5) = 1
  · have h := h.2.1 c1
    refine g_tabI (tgt := 46) X dX6_takesInDebts_4 c1 ⟨⟨by decide, by decide⟩, rfl⟩ (by decide) ?_
    refine g_aload_n X dX6_takesInDebts_46 rfl 0 rfl ?_
    refine g_iload_n X dX6_takesInDebts_47 rfl 1 rfl ?_
    refine g_aload_n X dX6_takesInDebts_48 rfl 0 rfl ?_
    refine fg_X6_34 X dX6_takesInDebts_49 ?_
    refine cl_X6_75 X (by decide) (Nat.le_of_ble_eq_true rfl) dX6_takesInDebts_52 h (fun r3 M4 h => ?_)
    exact g_zret X hQ dX6_takesInDebts_55 h
  by_cases c2 : (rd M 1 5) = 2
  · have h := h.2.2.1 c2
    refine g_tabI (tgt := 56) X dX6_takesInDebts_4 c2 ⟨⟨by decide, by decide⟩, rfl⟩ (by decide) ?_
    refine g_aload_n X dX6_takesInDebts_56 rfl 0 rfl ?_
    refine g_iload_n X dX6_takesInDebts_57 rfl 1 rfl ?_
    refine g_aload_n X dX6_takesInDebts_58 rfl 0 rfl ?_
    refine fg_X6_28 X dX6_takesInDebts_59 ?_
    refine cl_X6_88 X (by decide) (Nat.le_of_ble_eq_true rfl) dX6_takesInDebts_62 h (fun r5 M6 h => ?_)
    refine cl_X6_63 X (by decide) (Nat.le_of_ble_eq_true rfl) dX6_takesInDebts_65 h (fun r7 M8 h => ?_)
    exact g_zret X hQ dX6_takesInDebts_68 h
  by_cases c3 : (rd M 1 5) = 3
  · have h := h.2.2.2.1 c3
    refine g_tabI (tgt := 69) X dX6_takesInDebts_4 c3 ⟨⟨by decide, by decide⟩, rfl⟩ (by decide) ?_
    refine g_aload_n X dX6_takesInDebts_69 rfl 0 rfl ?_
    refine g_dup X dX6_takesInDebts_70 rfl ?_
    refine fg_X6_37 X dX6_takesInDebts_71 ?_
    refine g_iconst (v := 1) X dX6_takesInDebts_74 (by decide) ?_
    refine g_iadd X dX6_takesInDebts_75 ?_
    refine fp_X6_37 X dX6_takesInDebts_76 h (fun M9 h => ?_)
    refine g_aload_n X dX6_takesInDebts_79 rfl 0 rfl ?_
    refine g_iload_n X dX6_takesInDebts_80 rfl 1 rfl ?_
    refine g_bipush (v := 48) X dX6_takesInDebts_81 (by decide) ?_
    refine g_icmpeq (tgt := 99) X dX6_takesInDebts_83 (by decide) h (fun h => ?_) (fun h => ?_)
    · refine g_iconst (v := 0) X dX6_takesInDebts_99 (by decide) ?_
      refine cl_X6_63 X (by decide) (Nat.le_of_ble_eq_true rfl) dX6_takesInDebts_100 h (fun r10 M11 h => ?_)
      exact g_zret X hQ dX6_takesInDebts_103 h
    · refine g_iload_n X dX6_takesInDebts_86 rfl 1 rfl ?_
      refine g_bipush (v := 10) X dX6_takesInDebts_87 (by decide) ?_
      refine cl_X6_88 X (by decide) (Nat.le_of_ble_eq_true rfl) dX6_takesInDebts_89 h (fun r12 M13 h => ?_)
      refine g_ifeq (tgt := 99) X dX6_takesInDebts_92 (by decide) h (fun h => ?_) (fun h => ?_)
      · refine g_iconst (v := 0) X dX6_takesInDebts_99 (by decide) ?_
        refine cl_X6_63 X (by decide) (Nat.le_of_ble_eq_true rfl) dX6_takesInDebts_100 h (fun r14 M15 h => ?_)
        exact g_zret X hQ dX6_takesInDebts_103 h
      · refine g_iconst (v := 1) X dX6_takesInDebts_95 (by decide) ?_
        refine g_goto (tgt := 100) X dX6_takesInDebts_96 (by decide) ?_
        refine cl_X6_63 X (by decide) (Nat.le_of_ble_eq_true rfl) dX6_takesInDebts_100 h (fun r16 M17 h => ?_)
        exact g_zret X hQ dX6_takesInDebts_103 h
  have h := h.2.2.2.2 c0 c1 c2 c3
  refine g_tabO (tgt := 104) X dX6_takesInDebts_4 (by have e0 := lv_neT (a := 0) c0 (by decide); have e1 := lv_neT (a := 1) c1 (by decide); have e2 := lv_neT (a := 2) c2 (by decide); have e3 := lv_neT (a := 3) c3 (by decide); omega) (by decide) ?_
  refine g_iload_n X dX6_takesInDebts_104 rfl 1 rfl ?_
  refine g_bipush (v := 44) X dX6_takesInDebts_105 (by decide) ?_
  refine g_icmpne (tgt := 130) X dX6_takesInDebts_107 (by decide) h (fun h => ?_) (fun h => ?_)
  · refine g_iconst (v := 0) X dX6_takesInDebts_130 (by decide) ?_
    exact g_zret X hQ dX6_takesInDebts_131 ⟨Or.inl rfl, h⟩
  · refine g_aload_n X dX6_takesInDebts_110 rfl 0 rfl ?_
    refine fg_X6_37 X dX6_takesInDebts_111 ?_
    refine g_iconst (v := 4) X dX6_takesInDebts_114 (by decide) ?_
    refine g_icmpge (tgt := 130) X dX6_takesInDebts_115 (by decide) h (fun h => ?_) (fun h => ?_)
    · refine g_iconst (v := 0) X dX6_takesInDebts_130 (by decide) ?_
      exact g_zret X hQ dX6_takesInDebts_131 ⟨Or.inl rfl, h⟩
    · refine g_aload_n X dX6_takesInDebts_118 rfl 0 rfl ?_
      refine g_iconst (v := 3) X dX6_takesInDebts_119 (by decide) ?_
      refine cl_X6_67 X (by decide) (Nat.le_of_ble_eq_true rfl) dX6_takesInDebts_120 h (fun r18 M19 h => ?_)
      refine g_ifeq (tgt := 130) X dX6_takesInDebts_123 (by decide) h (fun h => ?_) (fun h => ?_)
      · refine g_iconst (v := 0) X dX6_takesInDebts_130 (by decide) ?_
        exact g_zret X hQ dX6_takesInDebts_131 ⟨Or.inl rfl, h⟩
      · refine g_iconst (v := 1) X dX6_takesInDebts_126 (by decide) ?_
        refine g_goto (tgt := 131) X dX6_takesInDebts_127 (by decide) ?_
        exact g_zret X hQ dX6_takesInDebts_131 ⟨Or.inr rfl, h⟩
theorem cl_X6_60 {E : Ek} {x : MC} {cc : ByteArray} {nL hm pc : Nat} {M : Mem} {lv : List (Nat × Value)} {st : List Value} (X : Cx E x cc nL RX6 hm) {v1 : Int32} {Post : Int32 → Mem → Prop} (hr : 3 < hm) (hW : (st.map fun v => v.category).sum ≤ 8) (hd : decode cc pc = .ok (.invokevirtual 60, 3)) (h : wp_X6_takesInDebts Post M v1) (kk : ∀ r M1, Post r M1 → G E x M1 (pc + 3) lv (.int r :: st)) : G E x M pc lv (.int v1 :: .ref (ad E 1) :: st) := k_I (fun hP hS hL => run_V X (w_X6_takesInDebts E (xl x)  h) cw_X6_takesInDebts m93 m94 m95 (⟨by decide, fun E f h => ⟨_, _, _, rfl, rfl, rfl⟩⟩ : OC 1 RX6) hr rfl hd hW hP hS hL) kk
