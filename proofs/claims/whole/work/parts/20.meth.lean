theorem cw_X6_append : CW yX6_append cX6_append 2 (some .boolean) 1 := ⟨m2, m3, Nat.le_of_ble_eq_true rfl, by decide +kernel⟩
def wp_X6_append (Post : Int32 → Mem → Prop) (M : Mem) (v1 : Int32) : Prop :=
 ((rd M 1 1) < 64 →
  vp_in (rd M 1 1) 64 ∧
  ∀ M1 : Mem, M1 = wr M 2 (rd M 1 1).toNatClampNeg v1 →
  ∀ M2 : Mem, M2 = wr M1 1 1 ((rd M1 1 1) + 1) →
  Post 1 M2) ∧
 (¬ (rd M 1 1) < 64 →
  Post 0 M)
theorem w_X6_append (E : Ek) (l : Launch) {v1 : Int32} {M : Mem} {Post : Int32 → Mem → Prop} (h : wp_X6_append Post M v1) : ctI E l yX6_append cX6_append 2 (some .boolean) 1 [.ref (ad E 1), .int v1] M Post := by
  refine ct_of (by decide) (Nat.le_of_ble_eq_true rfl) (fun x X hQ => ?_)
  change G E x M 0 [(0, .ref (ad E 1)), (1, .int v1)] []
  refine g_aload_n X dX6_append_0 rfl 0 rfl ?_
  refine fg_X6_15 X dX6_append_1 ?_
  refine g_bipush (v := 64) X dX6_append_4 (by decide) ?_
  refine g_icmplt (tgt := 11) X dX6_append_6 (by decide) h (fun h => ?_) (fun h => ?_)
  · refine g_aload_n X dX6_append_11 rfl 0 rfl ?_
    refine fg_X6_9 X dX6_append_12 ?_
    refine g_aload_n X dX6_append_15 rfl 0 rfl ?_
    refine fg_X6_15 X dX6_append_16 ?_
    refine g_iload_n X dX6_append_19 rfl 1 rfl ?_
    refine g_iast X ia_2 dX6_append_20 h (fun M1 h => ?_)
    refine g_aload_n X dX6_append_21 rfl 0 rfl ?_
    refine g_dup X dX6_append_22 rfl ?_
    refine fg_X6_15 X dX6_append_23 ?_
    refine g_iconst (v := 1) X dX6_append_26 (by decide) ?_
    refine g_iadd X dX6_append_27 ?_
    refine fp_X6_15 X dX6_append_28 h (fun M2 h => ?_)
    refine g_iconst (v := 1) X dX6_append_31 (by decide) ?_
    exact g_zret X hQ dX6_append_32 ⟨Or.inr rfl, h⟩
  · refine g_iconst (v := 0) X dX6_append_9 (by decide) ?_
    exact g_zret X hQ dX6_append_10 ⟨Or.inl rfl, h⟩
theorem cl_X11_67 {E : Ek} {x : MC} {cc : ByteArray} {nL hm pc : Nat} {M : Mem} {lv : List (Nat × Value)} {st : List Value} (X : Cx E x cc nL RX11 hm) {v1 : Int32} {Post : Int32 → Mem → Prop} (hr : 1 < hm) (hW : (st.map fun v => v.category).sum ≤ 8) (hd : decode cc pc = .ok (.invokevirtual 67, 3)) (h : wp_X6_append Post M v1) (kk : ∀ r M1, Post r M1 → G E x M1 (pc + 3) lv (.int r :: st)) : G E x M pc lv (.int v1 :: .ref (ad E 1) :: st) := k_I (fun hP hS hL => run_VN X (w_X6_append E (xl x)  h) cw_X6_append m5 m6 m7 (⟨by decide, fun E f h => ⟨_, _, _, rfl, rfl, rfl⟩⟩ : OC 1 RX6) hr rfl hd hW hP hS hL) kk
theorem cw_X11_letter : CW yX11_letter cX11_letter 2 (some .int) 1 := ⟨m9, m10, Nat.le_of_ble_eq_true rfl, by decide +kernel⟩
def wp_X11_letter (Post : Int32 → Mem → Prop) (M : Mem) (v1 : Int32) : Prop :=
 (v1 < 1 →
  Post (-102) M) ∧
 (¬ v1 < 1 →
  (v1 ≤ 126 →
   wp_X6_append (fun r1 M2 =>
    (r1 = 0 →
     Post (-104) M2) ∧
    (¬ r1 = 0 →
     Post (rd M2 1 1) M2)) M v1) ∧
  (¬ v1 ≤ 126 →
   Post (-102) M))
theorem w_X11_letter (E : Ek) (l : Launch) {v1 : Int32} {M : Mem} {Post : Int32 → Mem → Prop} (h : wp_X11_letter Post M v1) : ctI E l yX11_letter cX11_letter 2 (some .int) 2 [.ref (ad E 0), .int v1] M Post := by
  refine ct_of (by decide) (Nat.le_of_ble_eq_true rfl) (fun x X hQ => ?_)
  change G E x M 0 [(0, .ref (ad E 0)), (1, .int v1)] []
  refine g_iload_n X dX11_letter_0 rfl 1 rfl ?_
  refine g_iconst (v := 1) X dX11_letter_1 (by decide) ?_
  refine g_icmplt (tgt := 11) X dX11_letter_2 (by decide) h (fun h => ?_) (fun h => ?_)
  · refine g_bipush (v := (-102)) X dX11_letter_11 (by decide) ?_
    exact g_iret X hQ dX11_letter_13 h
  · refine g_iload_n X dX11_letter_5 rfl 1 rfl ?_
    refine g_bipush (v := 126) X dX11_letter_6 (by decide) ?_
    refine g_icmple (tgt := 14) X dX11_letter_8 (by decide) h (fun h => ?_) (fun h => ?_)
    · refine g_aload_n X dX11_letter_14 rfl 0 rfl ?_
      refine fg_X11_10 X dX11_letter_15 ?_
      refine g_iload_n X dX11_letter_18 rfl 1 rfl ?_
      refine cl_X11_67 X (by decide) (Nat.le_of_ble_eq_true rfl) dX11_letter_19 h (fun r1 M2 h => ?_)
      refine g_ifeq (tgt := 35) X dX11_letter_22 (by decide) h (fun h => ?_) (fun h => ?_)
      · refine g_bipush (v := (-104)) X dX11_letter_35 (by decide) ?_
        exact g_iret X hQ dX11_letter_37 h
      · refine g_aload_n X dX11_letter_25 rfl 0 rfl ?_
        refine fg_X11_10 X dX11_letter_26 ?_
        refine fg_X11_71 X dX11_letter_29 ?_
        refine g_goto (tgt := 37) X dX11_letter_32 (by decide) ?_
        exact g_iret X hQ dX11_letter_37 h
    · refine g_bipush (v := (-102)) X dX11_letter_11 (by decide) ?_
      exact g_iret X hQ dX11_letter_13 h
theorem cw_X11_blank : CW yX11_blank cX11_blank 2 (some .int) 0 := ⟨m11, m10, Nat.le_of_ble_eq_true rfl, by decide +kernel⟩
def wp_X11_blank (Post : Int32 → Mem → Prop) (M : Mem) : Prop :=
 ∀ x1_1 : Int32, x1_1 = rd M 1 1 →
 ∀ M2 : Mem, M2 = wr M 1 1 0 →
 Post x1_1 M2
theorem w_X11_blank (E : Ek) (l : Launch) {M : Mem} {Post : Int32 → Mem → Prop} (h : wp_X11_blank Post M ) : ctI E l yX11_blank cX11_blank 2 (some .int) 1 [.ref (ad E 0)] M Post := by
  refine ct_of (by decide) (Nat.le_of_ble_eq_true rfl) (fun x X hQ => ?_)
  change G E x M 0 [(0, .ref (ad E 0))] []
  refine g_aload_n X dX11_blank_0 rfl 0 rfl ?_
  refine fg_X11_10 X dX11_blank_1 ?_
  refine fg_X11_71 X dX11_blank_4 ?_
  refine g_nm h (fun x1_1 h => ?_)
  refine g_istore_n (lv' := [(0, .ref (ad E 0)), (1, .int x1_1)]) X dX11_blank_7 rfl (Nat.le_of_ble_eq_true rfl) rfl rfl ?_
  refine g_aload_n X dX11_blank_8 rfl 0 rfl ?_
  refine fg_X11_10 X dX11_blank_9 ?_
  refine g_iconst (v := 0) X dX11_blank_12 (by decide) ?_
  refine fp_X11_71 X dX11_blank_13 h (fun M2 h => ?_)
  refine g_iload_n X dX11_blank_16 rfl 1 rfl ?_
  exact g_iret X hQ dX11_blank_17 h
theorem cw_X6_takesIf : CW yX6_takesIf cX6_takesIf 2 (some .boolean) 1 := ⟨m13, m3, Nat.le_of_ble_eq_true rfl, by decide +kernel⟩
def wp_X6_takesIf (Post : Int32 → Mem → Prop) (M : Mem) (v1 : Int32) : Prop :=
 ∀ M1 : Mem, M1 = wr M 1 5 ((rd M 1 5) + 1) →
 zb v1 ∧ Post v1 M1
theorem w_X6_takesIf (E : Ek) (l : Launch) {v1 : Int32} {M : Mem} {Post : Int32 → Mem → Prop} (h : wp_X6_takesIf Post M v1) : ctI E l yX6_takesIf cX6_takesIf 2 (some .boolean) 1 [.ref (ad E 1), .int v1] M Post := by
  refine ct_of (by decide) (Nat.le_of_ble_eq_true rfl) (fun x X hQ => ?_)
  change G E x M 0 [(0, .ref (ad E 1)), (1, .int v1)] []
  refine g_aload_n X dX6_takesIf_0 rfl 0 rfl ?_
  refine g_dup X dX6_takesIf_1 rfl ?_
  refine fg_X6_22 X dX6_takesIf_2 ?_
  refine g_iconst (v := 1) X dX6_takesIf_5 (by decide) ?_
  refine g_iadd X dX6_takesIf_6 ?_
  refine fp_X6_22 X dX6_takesIf_7 h (fun M1 h => ?_)
  refine g_iload_n X dX6_takesIf_10 rfl 1 rfl ?_
  exact g_zret X hQ dX6_takesIf_11 h
theorem cl_X6_63 {E : Ek} {x : MC} {cc : ByteArray} {nL hm pc : Nat} {M : Mem} {lv : List (Nat × Value)} {st : List Value} (X : Cx E x cc nL RX6 hm) {v1 : Int32} {Post : Int32 → Mem → Prop} (hr : 1 < hm) (hW : (st.map fun v => v.category).sum ≤ 8) (hd : decode cc pc = .ok (.invokevirtual 63, 3)) (h : wp_X6_takesIf Post M v1) (kk : ∀ r M1, Post r M1 → G E x M1 (pc + 3) lv (.int r :: st)) : G E x M pc lv (.int v1 :: .ref (ad E 1) :: st) := k_I (fun hP hS hL => run_V X (w_X6_takesIf E (xl x)  h) cw_X6_takesIf m20 m21 m22 (⟨by decide, fun E f h => ⟨_, _, _, rfl, rfl, rfl⟩⟩ : OC 1 RX6) hr rfl hd hW hP hS hL) kk
theorem cw_X6_opens : CW yX6_opens cX6_opens 2 (some .boolean) 1 := ⟨m15, m3, Nat.le_of_ble_eq_true rfl, by decide +kernel⟩
def wp_X6_opens (Post : Int32 → Mem → Prop) (M : Mem) (v1 : Int32) : Prop :=
 ∀ M1 : Mem, M1 = wr M 1 4 v1 →
 ∀ M2 : Mem, M2 = wr M1 1 5 0 →
 Post 1 M2
theorem w_X6_opens (E : Ek) (l : Launch) {v1 : Int32} {M : Mem} {Post : Int32 → Mem → Prop} (h : wp_X6_opens Post M v1) : ctI E l yX6_opens cX6_opens 2 (some .boolean) 1 [.ref (ad E 1), .int v1] M Post := by
  refine ct_of (by decide) (Nat.le_of_ble_eq_true rfl) (fun x X hQ => ?_)
  change G E x M 0 [(0, .ref (ad E 1)), (1, .int v1)] []
  refine g_aload_n X dX6_opens_0 rfl 0 rfl ?_
  refine g_iload_n X dX6_opens_1 rfl 1 rfl ?_
  refine fp_X6_19 X dX6_opens_2 h (fun M1 h => ?_)
  refine g_aload_n X dX6_opens_5 rfl 0 rfl ?_
  refine g_iconst (v := 0) X dX6_opens_6 (by decide) ?_
  refine fp_X6_22 X dX6_opens_7 h (fun M2 h => ?_)
  refine g_iconst (v := 1) X dX6_opens_10 (by decide) ?_
  exact g_zret X hQ dX6_opens_11 ⟨Or.inr rfl, h⟩
theorem cl_X6_67 {E : Ek} {x : MC} {cc : ByteArray} {nL hm pc : Nat} {M : Mem} {lv : List (Nat × Value)} {st : List Value} (X : Cx E x cc nL RX6 hm) {v1 : Int32} {Post : Int32 → Mem → Prop} (hr : 1 < hm) (hW : (st.map fun v => v.category).sum ≤ 8) (hd : decode cc pc = .ok (.invokevirtual 67, 3)) (h : wp_X6_opens Post M v1) (kk : ∀ r M1, Post r M1 → G E x M1 (pc + 3) lv (.int r :: st)) : G E x M pc lv (.int v1 :: .ref (ad E 1) :: st) := k_I (fun hP hS hL => run_V X (w_X6_opens E (xl x)  h) cw_X6_opens m16 m17 m18 (⟨by decide, fun E f h => ⟨_, _, _, rfl, rfl, rfl⟩⟩ : OC 1 RX6) hr rfl hd hW hP hS hL) kk
theorem cw_X6_takesInRooms : CW yX6_takesInRooms cX6_takesInRooms 2 (some .boolean) 1 := ⟨m23, m3, Nat.le_of_ble_eq_true rfl, by decide +kernel⟩
def wp_X6_takesInRooms (Post : Int32 → Mem → Prop) (M : Mem) (v1 : Int32) : Prop :=
 (¬ (rd M 1 5) = 0 →
  (¬ v1 = 59 →
   Post 0 M) ∧
  (v1 = 59 →
   wp_X6_opens (fun r1 M2 =>
    (r1 = 0 →
     Post 0 M2) ∧
    (¬ r1 = 0 →
     Post 1 M2)) M 1)) ∧
 ((rd M 1 5) = 0 →
  ∀ M3 : Mem, M3 = wr M 1 7 (v1 - 48) →
  ((rd M3 1 7) < 2 →
   wp_X6_takesIf (fun r4 M5 =>
    zb r4 ∧ Post r4 M5) M3 0) ∧
  (¬ (rd M3 1 7) < 2 →
   (6 < (rd M3 1 7) →
    wp_X6_takesIf (fun r6 M7 =>
     zb r6 ∧ Post r6 M7) M3 0) ∧
   (¬ 6 < (rd M3 1 7) →
    wp_X6_takesIf (fun r8 M9 =>
     zb r8 ∧ Post r8 M9) M3 1)))
theorem w_X6_takesInRooms (E : Ek) (l : Launch) {v1 : Int32} {M : Mem} {Post : Int32 → Mem → Prop} (h : wp_X6_takesInRooms Post M v1) : ctI E l yX6_takesInRooms cX6_takesInRooms 2 (some .boolean) 2 [.ref (ad E 1), .int v1] M Post := by
  refine ct_of (by decide) (Nat.le_of_ble_eq_true rfl) (fun x X hQ => ?_)
  change G E x M 0 [(0, .ref (ad E 1)), (1, .int v1)] []
  refine g_aload_n X dX6_takesInRooms_0 rfl 0 rfl ?_
  refine fg_X6_22 X dX6_takesInRooms_1 ?_
  refine g_ifne (tgt := 42) X dX6_takesInRooms_4 (by decide) h (fun h => ?_) (fun h => ?_)
  · refine g_iload_n X dX6_takesInRooms_42 rfl 1 rfl ?_
    refine g_bipush (v := 59) X dX6_takesInRooms_43 (by decide) ?_
    refine g_icmpne (tgt := 60) X dX6_takesInRooms_45 (by decide) h (fun h => ?_) (fun h => ?_)
    · refine g_iconst (v := 0) X dX6_takesInRooms_60 (by decide) ?_
      exact g_zret X hQ dX6_takesInRooms_61 ⟨Or.inl rfl, h⟩
    · refine g_aload_n X dX6_takesInRooms_48 rfl 0 rfl ?_
      refine g_iconst (v := 1) X dX6_takesInRooms_49 (by decide) ?_
      refine cl_X6_67 X (by decide) (Nat.le_of_ble_eq_true rfl) dX6_takesInRooms_50 h (fun r1 M2 h => ?_)
      refine g_ifeq (tgt := 60) X dX6_takesInRooms_53 (by decide) h (fun h => ?_) (fun h => ?_)
      · refine g_iconst (v := 0) X dX6_takesInRooms_60 (by decide) ?_
        exact g_zret X hQ dX6_takesInRooms_61 ⟨Or.inl rfl, h⟩
      · refine g_iconst (v := 1) X dX6_takesInRooms_56 (by decide) ?_
        refine g_goto (tgt := 61) X dX6_takesInRooms_57 (by decide) ?_
        exact g_zret X hQ dX6_takesInRooms_61 ⟨Or.inr rfl, h⟩
  · refine g_aload_n X dX6_takesInRooms_7 rfl 0 rfl ?_
    refine g_iload_n X dX6_takesInRooms_8 rfl 1 rfl ?_
    refine g_bipush (v := 48) X dX6_takesInRooms_9 (by decide) ?_
    refine g_isub X dX6_takesInRooms_11 ?_
    refine fp_X6_28 X dX6_takesInRooms_12 h (fun M3 h => ?_)
    refine g_aload_n X dX6_takesInRooms_15 rfl 0 rfl ?_
    refine g_aload_n X dX6_takesInRooms_16 rfl 0 rfl ?_
    refine fg_X6_28 X dX6_takesInRooms_17 ?_
    refine g_iconst (v := 2) X dX6_takesInRooms_20 (by decide) ?_
    refine g_icmplt (tgt := 37) X dX6_takesInRooms_21 (by decide) h (fun h => ?_) (fun h => ?_)
    · refine g_iconst (v := 0) X dX6_takesInRooms_37 (by decide) ?_
      refine cl_X6_63 X (by decide) (Nat.le_of_ble_eq_true rfl) dX6_takesInRooms_38 h (fun r4 M5 h => ?_)
      exact g_zret X hQ dX6_takesInRooms_41 h
    · refine g_aload_n X dX6_takesInRooms_24 rfl 0 rfl ?_
      refine fg_X6_28 X dX6_takesInRooms_25 ?_
      refine g_bipush (v := 6) X dX6_takesInRooms_28 (by decide) ?_
      refine g_icmpgt (tgt := 37) X dX6_takesInRooms_30 (by decide) h (fun h => ?_) (fun h => ?_)
      · refine g_iconst (v := 0) X dX6_takesInRooms_37 (by decide) ?_
        refine cl_X6_63 X (by decide) (Nat.le_of_ble_eq_true rfl) dX6_takesInRooms_38 h (fun r6 M7 h => ?_)
        exact g_zret X hQ dX6_takesInRooms_41 h
      · refine g_iconst (v := 1) X dX6_takesInRooms_33 (by decide) ?_
        refine g_goto (tgt := 38) X dX6_takesInRooms_34 (by decide) ?_
        refine cl_X6_63 X (by decide) (Nat.le_of_ble_eq_true rfl) dX6_takesInRooms_38 h (fun r8 M9 h => ?_)
        exact g_zret X hQ dX6_takesInRooms_41 h
theorem cw_X6_isDigitBelow : CW yX6_isDigitBelow cX6_isDigitBelow 2 (some .boolean) 2 := ⟨m24, m3, Nat.le_of_ble_eq_true rfl, by decide +kernel⟩
def wp_X6_isDigitBelow (Post : Int32 → Mem → Prop) (M : Mem) (v0 : Int32) (v1 : Int32) : Prop :=
 (v0 < 48 →
  Post 0 M) ∧
 (¬ v0 < 48 →
  (v1 ≤ (v0 - 48) →
   Post 0 M) ∧
  (¬ v1 ≤ (v0 - 48) →
   Post 1 M))
theorem w_X6_isDigitBelow (E : Ek) (l : Launch) {v0 : Int32} {v1 : Int32} {M : Mem} {Post : Int32 → Mem → Prop} (h : wp_X6_isDigitBelow Post M v0 v1) : ctI E l yX6_isDigitBelow cX6_isDigitBelow 2 (some .boolean) 1 [.int v0, .int v1] M Post := by
  refine ct_of (by decide) (Nat.le_of_ble_eq_true rfl) (fun x X hQ => ?_)
  change G E x M 0 [(0, .int v0), (1, .int v1)] []
  refine g_iload_n X dX6_isDigitBelow_0 rfl 0 rfl ?_
  refine g_bipush (v := 48) X dX6_isDigitBelow_1 (by decide) ?_
  refine g_icmplt (tgt := 18) X dX6_isDigitBelow_3 (by decide) h (fun h => ?_) (fun h => ?_)
  · refine g_iconst (v := 0) X dX6_isDigitBelow_18 (by decide) ?_
    exact g_zret X hQ dX6_isDigitBelow_19 ⟨Or.inl rfl, h⟩
  · refine g_iload_n X dX6_isDigitBelow_6 rfl 0 rfl ?_
    refine g_bipush (v := 48) X dX6_isDigitBelow_7 (by decide) ?_
    refine g_isub X dX6_isDigitBelow_9 ?_
    refine g_iload_n X dX6_isDigitBelow_10 rfl 1 rfl ?_
    refine g_icmpge (tgt := 18) X dX6_isDigitBelow_11 (by decide) h (fun h => ?_) (fun h => ?_)
    · refine g_iconst (v := 0) X dX6_isDigitBelow_18 (by decide) ?_
      exact g_zret X hQ dX6_isDigitBelow_19 ⟨Or.inl rfl, h⟩
    · refine g_iconst (v := 1) X dX6_isDigitBelow_14 (by decide) ?_
      refine g_goto (tgt := 19) X dX6_isDigitBelow_15 (by decide) ?_
      exact g_zret X hQ dX6_isDigitBelow_19 ⟨Or.inr rfl, h⟩
theorem cl_X6_88 {E : Ek} {x : MC} {cc : ByteArray} {nL hm pc : Nat} {M : Mem} {lv : List (Nat × Value)} {st : List Value} (X : Cx E x cc nL RX6 hm) {v0 : Int32} {v1 : Int32} {Post : Int32 → Mem → Prop} (hr : 1 < hm) (hW : (st.map fun v => v.category).sum ≤ 8) (hd : decode cc pc = .ok (.invokestatic 88, 3)) (h : wp_X6_isDigitBelow Post M v0 v1) (kk : ∀ r M1, Post r M1 → G E x M1 (pc + 3) lv (.int r :: st)) : G E x M pc lv (.int v1 :: .int v0 :: st) := k_I (fun hP hS hL => run_S X (w_X6_isDigitBelow E (xl x)  h) cw_X6_isDigitBelow m26 m27 hr rfl hd hW hP hS hL) kk
theorem cw_X6_takesFirst : CW yX6_takesFirst cX6_takesFirst 3 (some .boolean) 2 := ⟨m28, m3, Nat.le_of_ble_eq_true rfl, by decide +kernel⟩
def wp_X6_takesFirst (Post : Int32 → Mem → Prop) (M : Mem) (v1 : Int32) (v2 : Int32) : Prop :=
 ∀ M1 : Mem, M1 = wr M 1 6 (v1 - 48) →
 wp_X6_isDigitBelow (fun r2 M3 =>
  wp_X6_takesIf (fun r4 M5 =>
   zb r4 ∧ Post r4 M5) M3 r2) M1 v1 v2
theorem w_X6_takesFirst (E : Ek) (l : Launch) {v1 : Int32} {v2 : Int32} {M : Mem} {Post : Int32 → Mem → Prop} (h : wp_X6_takesFirst Post M v1 v2) : ctI E l yX6_takesFirst cX6_takesFirst 3 (some .boolean) 2 [.ref (ad E 1), .int v1, .int v2] M Post := by
  refine ct_of (by decide) (Nat.le_of_ble_eq_true rfl) (fun x X hQ => ?_)
  change G E x M 0 [(0, .ref (ad E 1)), (1, .int v1), (2, .int v2)] []
  refine g_aload_n X dX6_takesFirst_0 rfl 0 rfl ?_
  refine g_iload_n X dX6_takesFirst_1 rfl 1 rfl ?_
  refine g_bipush (v := 48) X dX6_takesFirst_2 (by decide) ?_
  refine g_isub X dX6_takesFirst_4 ?_
  refine fp_X6_25 X dX6_takesFirst_5 h (fun M1 h => ?_)
  refine g_aload_n X dX6_takesFirst_8 rfl 0 rfl ?_
  refine g_iload_n X dX6_takesFirst_9 rfl 1 rfl ?_
  refine g_iload_n X dX6_takesFirst_10 rfl 2 rfl ?_
  refine cl_X6_88 X (by decide) (Nat.le_of_ble_eq_true rfl) dX6_takesFirst_11 h (fun r2 M3 h => ?_)
  refine cl_X6_63 X (by decide) (Nat.le_of_ble_eq_true rfl) dX6_takesFirst_14 h (fun r4 M5 h => ?_)
  exact g_zret X hQ dX6_takesFirst_17 h
theorem cl_X6_71 {E : Ek} {x : MC} {cc : ByteArray} {nL hm pc : Nat} {M : Mem} {lv : List (Nat × Value)} {st : List Value} (X : Cx E x cc nL RX6 hm) {v1 : Int32} {v2 : Int32} {Post : Int32 → Mem → Prop} (hr : 2 < hm) (hW : (st.map fun v => v.category).sum ≤ 8) (hd : decode cc pc = .ok (.invokevirtual 71, 3)) (h : wp_X6_takesFirst Post M v1 v2) (kk : ∀ r M1, Post r M1 → G E x M1 (pc + 3) lv (.int r :: st)) : G E x M pc lv (.int v2 :: .int v1 :: .ref (ad E 1) :: st) := k_I (fun hP hS hL => run_V X (w_X6_takesFirst E (xl x)  h) cw_X6_takesFirst m31 m32 m33 (⟨by decide, fun E f h => ⟨_, _, _, rfl, rfl, rfl⟩⟩ : OC 1 RX6) hr rfl hd hW hP hS hL) kk
theorem cw_X6_takesOther : CW yX6_takesOther cX6_takesOther 3 (some .boolean) 2 := ⟨m29, m3, Nat.le_of_ble_eq_true rfl, by decide +kernel⟩
def wp_X6_takesOther (Post : Int32 → Mem → Prop) (M : Mem) (v1 : Int32) (v2 : Int32) : Prop :=
 wp_X6_isDigitBelow (fun r1 M2 =>
  (r1 = 0 →
   wp_X6_takesIf (fun r3 M4 =>
    zb r3 ∧ Post r3 M4) M2 0) ∧
  (¬ r1 = 0 →
   ((v1 - 48) = (rd M2 1 6) →
    wp_X6_takesIf (fun r5 M6 =>
     zb r5 ∧ Post r5 M6) M2 0) ∧
   (¬ (v1 - 48) = (rd M2 1 6) →
    wp_X6_takesIf (fun r7 M8 =>
     zb r7 ∧ Post r7 M8) M2 1))) M v1 v2
theorem w_X6_takesOther (E : Ek) (l : Launch) {v1 : Int32} {v2 : Int32} {M : Mem} {Post : Int32 → Mem → Prop} (h : wp_X6_takesOther Post M v1 v2) : ctI E l yX6_takesOther cX6_takesOther 3 (some .boolean) 2 [.ref (ad E 1), .int v1, .int v2] M Post := by
  refine ct_of (by decide) (Nat.le_of_ble_eq_true rfl) (fun x X hQ => ?_)
  change G E x M 0 [(0, .ref (ad E 1)), (1, .int v1), (2, .int v2)] []
  refine g_aload_n X dX6_takesOther_0 rfl 0 rfl ?_
  refine g_iload_n X dX6_takesOther_1 rfl 1 rfl ?_
  refine g_iload_n X dX6_takesOther_2 rfl 2 rfl ?_
  refine cl_X6_88 X (by decide) (Nat.le_of_ble_eq_true rfl) dX6_takesOther_3 h (fun r1 M2 h => ?_)
  refine g_ifeq (tgt := 24) X dX6_takesOther_6 (by decide) h (fun h => ?_) (fun h => ?_)
  · refine g_iconst (v := 0) X dX6_takesOther_24 (by decide) ?_
    refine cl_X6_63 X (by decide) (Nat.le_of_ble_eq_true rfl) dX6_takesOther_25 h (fun r3 M4 h => ?_)
    exact g_zret X hQ dX6_takesOther_28 h
  · refine g_iload_n X dX6_takesOther_9 rfl 1 rfl ?_
    refine g_bipush (v := 48) X dX6_takesOther_10 (by decide) ?_
    refine g_isub X dX6_takesOther_12 ?_
    refine g_aload_n X dX6_takesOther_13 rfl 0 rfl ?_
    refine fg_X6_25 X dX6_takesOther_14 ?_
    refine g_icmpeq (tgt := 24) X dX6_takesOther_17 (by decide) h (fun h => ?_) (fun h => ?_)
    · refine g_iconst (v := 0) X dX6_takesOther_24 (by decide) ?_
      refine cl_X6_63 X (by decide) (Nat.le_of_ble_eq_true rfl) dX6_takesOther_25 h (fun r5 M6 h => ?_)
      exact g_zret X hQ dX6_takesOther_28 h
    · refine g_iconst (v := 1) X dX6_takesOther_20 (by decide) ?_
      refine g_goto (tgt := 25) X dX6_takesOther_21 (by decide) ?_
      refine cl_X6_63 X (by decide) (Nat.le_of_ble_eq_true rfl) dX6_takesOther_25 h (fun r7 M8 h => ?_)
      exact g_zret X hQ dX6_takesOther_28 h
theorem cl_X6_75 {E : Ek} {x : MC} {cc : ByteArray} {nL hm pc : Nat} {M : Mem} {lv : List (Nat × Value)} {st : List Value} (X : Cx E x cc nL RX6 hm) {v1 : Int32} {v2 : Int32} {Post : Int32 → Mem → Prop} (hr : 2 < hm) (hW : (st.map fun v => v.category).sum ≤ 8) (hd : decode cc pc = .ok (.invokevirtual 75, 3)) (h : wp_X6_takesOther Post M v1 v2) (kk : ∀ r M1, Post r M1 → G E x M1 (pc + 3) lv (.int r :: st)) : G E x M pc lv (.int v2 :: .int v1 :: .ref (ad E 1) :: st) := k_I (fun hP hS hL => run_V X (w_X6_takesOther E (xl x)  h) cw_X6_takesOther m34 m35 m36 (⟨by decide, fun E f h => ⟨_, _, _, rfl, rfl, rfl⟩⟩ : OC 1 RX6) hr rfl hd hW hP hS hL) kk
theorem cw_X6_takesInDebts : CW yX6_takesInDebts cX6_takesInDebts 2 (some .boolean) 1 := ⟨m38, m3, Nat.le_of_ble_eq_true rfl, by decide +kernel⟩
def wp_X6_takesInDebts (Post : Int32 → Mem → Prop) (M : Mem) (v1 : Int32) : Prop :=
 ((rd M 1 5) = 0 →
  wp_X6_takesFirst (fun r1 M2 =>
   zb r1 ∧ Post r1 M2) M v1 (rd M 1 9)) ∧
 ((rd M 1 5) = 1 →
  wp_X6_takesOther (fun r3 M4 =>
   zb r3 ∧ Post r3 M4) M v1 (rd M 1 9)) ∧
 ((rd M 1 5) = 2 →
  wp_X6_isDigitBelow (fun r5 M6 =>
   wp_X6_takesIf (fun r7 M8 =>
    zb r7 ∧ Post r7 M8) M6 r5) M v1 (rd M 1 7)) ∧
 ((rd M 1 5) = 3 →
  ∀ M9 : Mem, M9 = wr M 1 10 ((rd M 1 10) + 1) →
  (v1 = 48 →
   wp_X6_takesIf (fun r10 M11 =>
    zb r10 ∧ Post r10 M11) M9 0) ∧
  (¬ v1 = 48 →
   wp_X6_isDigitBelow (fun r12 M13 =>
    (r12 = 0 →
     wp_X6_takesIf (fun r14 M15 =>
      zb r14 ∧ Post r14 M15) M13 0) ∧
    (¬ r12 = 0 →
     wp_X6_takesIf (fun r16 M17 =>
      zb r16 ∧ Post r16 M17) M13 1)) M9 v1 10)) ∧
 (¬ (rd M 1 5) = 0 → ¬ (rd M 1 5) = 1 → ¬ (rd M 1 5) = 2 → ¬ (rd M 1 5) = 3 → 
  (¬ v1 = 44 →
   Post 0 M) ∧
  (v1 = 44 →
   (4 ≤ (rd M 1 10) →
    Post 0 M) ∧
   (¬ 4 ≤ (rd M 1 10) →
    wp_X6_opens (fun r18 M19 =>
     (r18 = 0 →
      Post 0 M19) ∧
     (¬ r18 = 0 →
      Post 1 M19)) M 3)))
theorem w_X6_takesInDebts (E : Ek) (l : Launch) {v1 : Int32} {M : Mem} {Post : Int32 → Mem → Prop} (h : wp_X6_takesInDebts Post M v1) : ctI E l yX6_takesInDebts cX6_takesInDebts 2 (some .boolean) 3 [.ref (ad E 1), .int v1] M Post := by
  refine ct_of (by decide) (Nat.le_of_ble_eq_true rfl) (fun x X hQ => ?_)
  change G E x M 0 [(0, .ref (ad E 1)), (1, .int v1)] []
  refine g_aload_n X dX6_takesInDebts_0 rfl 0 rfl ?_
  refine fg_X6_22 X dX6_takesInDebts_1 ?_
  by_cases c0 : (rd M 1 5) = 0
  · have h := h.1 c0
    refine g_tabI (tgt := 36) X dX6_takesInDebts_4 c0 ⟨⟨by decide, by decide⟩, rfl⟩ (by decide) ?_
    refine g_aload_n X dX6_takesInDebts_36 rfl 0 rfl ?_
    refine g_iload_n X dX6_takesInDebts_37 rfl 1 rfl ?_
    refine g_aload_n X dX6_takesInDebts_38 rfl 0 rfl ?_
    refine fg_X6_34 X dX6_takesInDebts_39 ?_
    refine cl_X6_71 X (by decide) (Nat.le_of_ble_eq_true rfl) dX6_takesInDebts_42 h (fun r1 M2 h => ?_)
    exact g_zret X hQ dX6_takesInDebts_45 h
  by_cases c1 : (rd M 1 5) = 1
  · have h := h.2.1 c1
    refine g_tabI (tgt := 46) X dX6_takesInDebts_4 c1 ⟨⟨by decide, by decide⟩, rfl⟩ (by decide) ?_
    refine g_aload_n X dX6_takesInDebts_46 rfl 0 rfl ?_
    refine g_iload_n X dX6_takesInDebts_47 rfl 1 rfl ?_
    refine g_aload_n X dX6_takesInDebts_48 rfl 0 rfl ?_
    refine fg_X6_34 X dX6_takesInDebts_49 ?_
    refine cl_X6_75 X (by decide) (Nat.le_of_ble_eq_true rfl) dX6_takesInDebts_52 h (fun r3 M4 h => ?_)
    exact g_zret X hQ dX6_takesInDebts_55 h
  by_cases c2 : (rd M 1 5) = 2
  · have h := h.2.2.1 c2
    refine g_tabI (tgt := 56) X dX6_takesInDebts_4 c2 ⟨⟨by decide, by decide⟩, rfl⟩ (by decide) ?_
    refine g_aload_n X dX6_takesInDebts_56 rfl 0 rfl ?_
    refine g_iload_n X dX6_takesInDebts_57 rfl 1 rfl ?_
    refine g_aload_n X dX6_takesInDebts_58 rfl 0 rfl ?_
    refine fg_X6_28 X dX6_takesInDebts_59 ?_
    refine cl_X6_88 X (by decide) (Nat.le_of_ble_eq_true rfl) dX6_takesInDebts_62 h (fun r5 M6 h => ?_)
    refine cl_X6_63 X (by decide) (Nat.le_of_ble_eq_true rfl) dX6_takesInDebts_65 h (fun r7 M8 h => ?_)
    exact g_zret X hQ dX6_takesInDebts_68 h
  by_cases c3 : (rd M 1 5) = 3
  · have h := h.2.2.2.1 c3
    refine g_tabI (tgt := 69) X dX6_takesInDebts_4 c3 ⟨⟨by decide, by decide⟩, rfl⟩ (by decide) ?_
    refine g_aload_n X dX6_takesInDebts_69 rfl 0 rfl ?_
    refine g_dup X dX6_takesInDebts_70 rfl ?_
    refine fg_X6_37 X dX6_takesInDebts_71 ?_
    refine g_iconst (v := 1) X dX6_takesInDebts_74 (by decide) ?_
    refine g_iadd X dX6_takesInDebts_75 ?_
    refine fp_X6_37 X dX6_takesInDebts_76 h (fun M9 h => ?_)
    refine g_aload_n X dX6_takesInDebts_79 rfl 0 rfl ?_
    refine g_iload_n X dX6_takesInDebts_80 rfl 1 rfl ?_
    refine g_bipush (v := 48) X dX6_takesInDebts_81 (by decide) ?_
    refine g_icmpeq (tgt := 99) X dX6_takesInDebts_83 (by decide) h (fun h => ?_) (fun h => ?_)
    · refine g_iconst (v := 0) X dX6_takesInDebts_99 (by decide) ?_
      refine cl_X6_63 X (by decide) (Nat.le_of_ble_eq_true rfl) dX6_takesInDebts_100 h (fun r10 M11 h => ?_)
      exact g_zret X hQ dX6_takesInDebts_103 h
    · refine g_iload_n X dX6_takesInDebts_86 rfl 1 rfl ?_
      refine g_bipush (v := 10) X dX6_takesInDebts_87 (by decide) ?_
      refine cl_X6_88 X (by decide) (Nat.le_of_ble_eq_true rfl) dX6_takesInDebts_89 h (fun r12 M13 h => ?_)
      refine g_ifeq (tgt := 99) X dX6_takesInDebts_92 (by decide) h (fun h => ?_) (fun h => ?_)
      · refine g_iconst (v := 0) X dX6_takesInDebts_99 (by decide) ?_
        refine cl_X6_63 X (by decide) (Nat.le_of_ble_eq_true rfl) dX6_takesInDebts_100 h (fun r14 M15 h => ?_)
        exact g_zret X hQ dX6_takesInDebts_103 h
      · refine g_iconst (v := 1) X dX6_takesInDebts_95 (by decide) ?_
        refine g_goto (tgt := 100) X dX6_takesInDebts_96 (by decide) ?_
        refine cl_X6_63 X (by decide) (Nat.le_of_ble_eq_true rfl) dX6_takesInDebts_100 h (fun r16 M17 h => ?_)
        exact g_zret X hQ dX6_takesInDebts_103 h
  have h := h.2.2.2.2 c0 c1 c2 c3
  refine g_tabO (tgt := 104) X dX6_takesInDebts_4 (by have e0 := lv_neT (a := 0) c0 (by decide); have e1 := lv_neT (a := 1) c1 (by decide); have e2 := lv_neT (a := 2) c2 (by decide); have e3 := lv_neT (a := 3) c3 (by decide); omega) (by decide) ?_
  refine g_iload_n X dX6_takesInDebts_104 rfl 1 rfl ?_
  refine g_bipush (v := 44) X dX6_takesInDebts_105 (by decide) ?_
  refine g_icmpne (tgt := 130) X dX6_takesInDebts_107 (by decide) h (fun h => ?_) (fun h => ?_)
  · refine g_iconst (v := 0) X dX6_takesInDebts_130 (by decide) ?_
    exact g_zret X hQ dX6_takesInDebts_131 ⟨Or.inl rfl, h⟩
  · refine g_aload_n X dX6_takesInDebts_110 rfl 0 rfl ?_
    refine fg_X6_37 X dX6_takesInDebts_111 ?_
    refine g_iconst (v := 4) X dX6_takesInDebts_114 (by decide) ?_
    refine g_icmpge (tgt := 130) X dX6_takesInDebts_115 (by decide) h (fun h => ?_) (fun h => ?_)
    · refine g_iconst (v := 0) X dX6_takesInDebts_130 (by decide) ?_
      exact g_zret X hQ dX6_takesInDebts_131 ⟨Or.inl rfl, h⟩
    · refine g_aload_n X dX6_takesInDebts_118 rfl 0 rfl ?_
      refine g_iconst (v := 3) X dX6_takesInDebts_119 (by decide) ?_
      refine cl_X6_67 X (by decide) (Nat.le_of_ble_eq_true rfl) dX6_takesInDebts_120 h (fun r18 M19 h => ?_)
      refine g_ifeq (tgt := 130) X dX6_takesInDebts_123 (by decide) h (fun h => ?_) (fun h => ?_)
      · refine g_iconst (v := 0) X dX6_takesInDebts_130 (by decide) ?_
        exact g_zret X hQ dX6_takesInDebts_131 ⟨Or.inl rfl, h⟩
      · refine g_iconst (v := 1) X dX6_takesInDebts_126 (by decide) ?_
        refine g_goto (tgt := 131) X dX6_takesInDebts_127 (by decide) ?_
        exact g_zret X hQ dX6_takesInDebts_131 ⟨Or.inr rfl, h⟩
theorem cw_X6_digitAt : CW yX6_digitAt cX6_digitAt 2 (some .int) 1 := ⟨m39, m3, Nat.le_of_ble_eq_true rfl, by decide +kernel⟩
def wp_X6_digitAt (Post : Int32 → Mem → Prop) (M : Mem) (v1 : Int32) : Prop :=
 (v1 < 0 →
  Post 0 M) ∧
 (¬ v1 < 0 →
  (64 ≤ v1 →
   Post 0 M) ∧
  (¬ 64 ≤ v1 →
   vp_in v1 64 ∧
   Post ((rd M 2 v1.toNatClampNeg) - 48) M))
theorem w_X6_digitAt (E : Ek) (l : Launch) {v1 : Int32} {M : Mem} {Post : Int32 → Mem → Prop} (h : wp_X6_digitAt Post M v1) : ctI E l yX6_digitAt cX6_digitAt 2 (some .int) 1 [.ref (ad E 1), .int v1] M Post := by
  refine ct_of (by decide) (Nat.le_of_ble_eq_true rfl) (fun x X hQ => ?_)
  change G E x M 0 [(0, .ref (ad E 1)), (1, .int v1)] []
  refine g_iload_n X dX6_digitAt_0 rfl 1 rfl ?_
  refine g_iflt (tgt := 22) X dX6_digitAt_1 (by decide) h (fun h => ?_) (fun h => ?_)
  · refine g_iconst (v := 0) X dX6_digitAt_22 (by decide) ?_
    exact g_iret X hQ dX6_digitAt_23 h
  · refine g_iload_n X dX6_digitAt_4 rfl 1 rfl ?_
    refine g_bipush (v := 64) X dX6_digitAt_5 (by decide) ?_
    refine g_icmpge (tgt := 22) X dX6_digitAt_7 (by decide) h (fun h => ?_) (fun h => ?_)
    · refine g_iconst (v := 0) X dX6_digitAt_22 (by decide) ?_
      exact g_iret X hQ dX6_digitAt_23 h
    · refine g_aload_n X dX6_digitAt_10 rfl 0 rfl ?_
      refine fg_X6_9 X dX6_digitAt_11 ?_
      refine g_iload_n X dX6_digitAt_14 rfl 1 rfl ?_
      refine g_iald X ia_2 dX6_digitAt_15 h (fun h => ?_)
      refine g_bipush (v := 48) X dX6_digitAt_16 (by decide) ?_
      refine g_isub X dX6_digitAt_18 ?_
      refine g_goto (tgt := 23) X dX6_digitAt_19 (by decide) ?_
      exact g_iret X hQ dX6_digitAt_23 h
theorem cl_X6_104 {E : Ek} {x : MC} {cc : ByteArray} {nL hm pc : Nat} {M : Mem} {lv : List (Nat × Value)} {st : List Value} (X : Cx E x cc nL RX6 hm) {v1 : Int32} {Post : Int32 → Mem → Prop} (hr : 1 < hm) (hW : (st.map fun v => v.category).sum ≤ 8) (hd : decode cc pc = .ok (.invokevirtual 104, 3)) (h : wp_X6_digitAt Post M v1) (kk : ∀ r M1, Post r M1 → G E x M1 (pc + 3) lv (.int r :: st)) : G E x M pc lv (.int v1 :: .ref (ad E 1) :: st) := k_I (fun hP hS hL => run_V X (w_X6_digitAt E (xl x)  h) cw_X6_digitAt m47 m48 m49 (⟨by decide, fun E f h => ⟨_, _, _, rfl, rfl, rfl⟩⟩ : OC 1 RX6) hr rfl hd hW hP hS hL) kk
theorem cw_X6_peopleAt : CW yX6_peopleAt cX6_peopleAt 1 (some .int) 0 := ⟨m41, m3, Nat.le_of_ble_eq_true rfl, by decide +kernel⟩
def wp_X6_peopleAt (Post : Int32 → Mem → Prop) (M : Mem) : Prop :=
 Post ((2 : Int32) + ((4 : Int32) * (rd M 1 8))) M
theorem w_X6_peopleAt (E : Ek) (l : Launch) {M : Mem} {Post : Int32 → Mem → Prop} (h : wp_X6_peopleAt Post M ) : ctI E l yX6_peopleAt cX6_peopleAt 1 (some .int) 1 [.ref (ad E 1)] M Post := by
  refine ct_of (by decide) (Nat.le_of_ble_eq_true rfl) (fun x X hQ => ?_)
  change G E x M 0 [(0, .ref (ad E 1))] []
  refine g_iconst (v := 2) X dX6_peopleAt_0 (by decide) ?_
  refine g_iconst (v := 4) X dX6_peopleAt_1 (by decide) ?_
  refine g_aload_n X dX6_peopleAt_2 rfl 0 rfl ?_
  refine fg_X6_31 X dX6_peopleAt_3 ?_
  refine g_imul X dX6_peopleAt_6 ?_
  refine g_iadd X dX6_peopleAt_7 ?_
  exact g_iret X hQ dX6_peopleAt_8 h
theorem cl_X6_91 {E : Ek} {x : MC} {cc : ByteArray} {nL hm pc : Nat} {M : Mem} {lv : List (Nat × Value)} {st : List Value} (X : Cx E x cc nL RX6 hm) {Post : Int32 → Mem → Prop} (hr : 1 < hm) (hW : (st.map fun v => v.category).sum ≤ 8) (hd : decode cc pc = .ok (.invokevirtual 91, 3)) (h : wp_X6_peopleAt Post M ) (kk : ∀ r M1, Post r M1 → G E x M1 (pc + 3) lv (.int r :: st)) : G E x M pc lv (.ref (ad E 1) :: st) := k_I (fun hP hS hL => run_V X (w_X6_peopleAt E (xl x)  h) cw_X6_peopleAt m42 m43 m44 (⟨by decide, fun E f h => ⟨_, _, _, rfl, rfl, rfl⟩⟩ : OC 1 RX6) hr rfl hd hW hP hS hL) kk
theorem cw_X6_debtsAt : CW yX6_debtsAt cX6_debtsAt 1 (some .int) 0 := ⟨m45, m3, Nat.le_of_ble_eq_true rfl, by decide +kernel⟩
def wp_X6_debtsAt (Post : Int32 → Mem → Prop) (M : Mem) : Prop :=
 wp_X6_peopleAt (fun r1 M2 =>
  Post (r1 + ((4 : Int32) * (rd M2 1 9))) M2) M 
theorem w_X6_debtsAt (E : Ek) (l : Launch) {M : Mem} {Post : Int32 → Mem → Prop} (h : wp_X6_debtsAt Post M ) : ctI E l yX6_debtsAt cX6_debtsAt 1 (some .int) 2 [.ref (ad E 1)] M Post := by
  refine ct_of (by decide) (Nat.le_of_ble_eq_true rfl) (fun x X hQ => ?_)
  change G E x M 0 [(0, .ref (ad E 1))] []
  refine g_aload_n X dX6_debtsAt_0 rfl 0 rfl ?_
  refine cl_X6_91 X (by decide) (Nat.le_of_ble_eq_true rfl) dX6_debtsAt_1 h (fun r1 M2 h => ?_)
  refine g_iconst (v := 4) X dX6_debtsAt_4 (by decide) ?_
  refine g_aload_n X dX6_debtsAt_5 rfl 0 rfl ?_
  refine fg_X6_34 X dX6_debtsAt_6 ?_
  refine g_imul X dX6_debtsAt_9 ?_
  refine g_iadd X dX6_debtsAt_10 ?_
  exact g_iret X hQ dX6_debtsAt_11 h
theorem cl_X6_125 {E : Ek} {x : MC} {cc : ByteArray} {nL hm pc : Nat} {M : Mem} {lv : List (Nat × Value)} {st : List Value} (X : Cx E x cc nL RX6 hm) {Post : Int32 → Mem → Prop} (hr : 2 < hm) (hW : (st.map fun v => v.category).sum ≤ 8) (hd : decode cc pc = .ok (.invokevirtual 125, 3)) (h : wp_X6_debtsAt Post M ) (kk : ∀ r M1, Post r M1 → G E x M1 (pc + 3) lv (.int r :: st)) : G E x M pc lv (.ref (ad E 1) :: st) := k_I (fun hP hS hL => run_V X (w_X6_debtsAt E (xl x)  h) cw_X6_debtsAt m52 m53 m54 (⟨by decide, fun E f h => ⟨_, _, _, rfl, rfl, rfl⟩⟩ : OC 1 RX6) hr rfl hd hW hP hS hL) kk
theorem cw_X6_readAffairs : CW yX6_readAffairs cX6_readAffairs 4 none 1 := ⟨m59, m3, Nat.le_of_ble_eq_true rfl, by decide +kernel⟩
def wp_X6_readAffairs_b96 (Post : Mem → Prop) (o1 : Nat) (P2 : Mem → Int32 → Prop) (P53 : Mem → Int32 → Prop) (P96 : Mem → Int32 → Prop) (M : Mem) (v2 : Int32) : Prop :=
 (2 ≤ v2 →
  ∀ M18 : Mem, M18 = wr M o1 9 0 →
  ∀ M19 : Mem, M19 = wr M18 o1 8 0 →
  Post M19) ∧
 (¬ 2 ≤ v2 →
  vp_in v2 2 ∧
  ∀ M20 : Mem, M20 = wr M (o1 + 3) v2.toNatClampNeg v2 →
  ∀ x2_21 : Int32, x2_21 = v2 + 1 →
  P96 M20 x2_21)
def wp_X6_readAffairs_b53 (Post : Mem → Prop) (o1 : Nat) (P2 : Mem → Int32 → Prop) (P53 : Mem → Int32 → Prop) (P96 : Mem → Int32 → Prop) (M : Mem) (v2 : Int32) : Prop :=
 ((rd M 1 10) ≤ v2 →
  P96 M 0) ∧
 (¬ (rd M 1 10) ≤ v2 →
  wp_X6_debtsAt (fun r11 M12 =>
   wp_X6_digitAt (fun r13 M14 =>
    vp_in v2 4 ∧
    ∀ M15 : Mem, M15 = wr M14 (o1 + 4) v2.toNatClampNeg r13 →
    vp_in v2 4 ∧
    ∀ M16 : Mem, M16 = wr M15 (o1 + 5) v2.toNatClampNeg (vp_nar .boolean 0) →
    ∀ x2_17 : Int32, x2_17 = v2 + 1 →
    P53 M16 x2_17) M12 ((r11 + ((5 : Int32) * v2)) + 3)) M )
def wp_X6_readAffairs_b2 (Post : Mem → Prop) (o1 : Nat) (P2 : Mem → Int32 → Prop) (P53 : Mem → Int32 → Prop) (P96 : Mem → Int32 → Prop) (M : Mem) (v2 : Int32) : Prop :=
 ((rd M 1 9) ≤ v2 →
  P53 M 0) ∧
 (¬ (rd M 1 9) ≤ v2 →
  wp_X6_peopleAt (fun r1 M2 =>
   ∀ x3_3 : Int32, x3_3 = r1 + ((4 : Int32) * v2) →
   wp_X6_digitAt (fun r4 M5 =>
    vp_in v2 4 ∧
    ∀ M6 : Mem, M6 = wr M5 (o1 + 1) v2.toNatClampNeg r4 →
    wp_X6_digitAt (fun r7 M8 =>
     vp_in v2 4 ∧
     ∀ M9 : Mem, M9 = wr M8 (o1 + 2) v2.toNatClampNeg r7 →
     ∀ x2_10 : Int32, x2_10 = v2 + 1 →
     P2 M9 x2_10) M6 (x3_3 + 2)) M2 (x3_3 + 1)) M )
def wp_X6_readAffairs (Post : Mem → Prop) (M : Mem) (o1 : Nat) : Prop :=
 ∀ (P2 : Mem → Int32 → Prop) (P53 : Mem → Int32 → Prop) (P96 : Mem → Int32 → Prop) ,
  (∀ (M : Mem) (v2 : Int32), wp_X6_readAffairs_b2 Post o1 P2 P53 P96 M v2 → P2 M v2) →
  (∀ (M : Mem) (v2 : Int32), wp_X6_readAffairs_b53 Post o1 P2 P53 P96 M v2 → P53 M v2) →
  (∀ (M : Mem) (v2 : Int32), wp_X6_readAffairs_b96 Post o1 P2 P53 P96 M v2 → P96 M v2) →
 P2 M 0
theorem k_X6_readAffairs_b96 {E : Ek} {x : MC} (X : Cx E x cX6_readAffairs 4 RX6 3) {Post : Mem → Prop} (hQ : QV E x Post none) {o1 : Nat} (ho1 : Aff o1) {M : Mem} {v2 : Int32} (h : wp_X6_readAffairs_b96 Post o1 (fun M v2 => G E x M 2 [(0, .ref (ad E 1)), (1, .ref (ad E o1)), (2, .int v2)] []) (fun M v2 => G E x M 53 [(0, .ref (ad E 1)), (1, .ref (ad E o1)), (2, .int v2)] []) (fun M v2 => G E x M 96 [(1, .ref (ad E o1)), (2, .int v2)] []) M v2) : G E x M 96 [(1, .ref (ad E o1)), (2, .int v2)] [] := by
  refine g_iload_n X dX6_readAffairs_96 rfl 1 rfl ?_
  refine g_iconst (v := 2) X dX6_readAffairs_97 (by decide) ?_
  refine g_icmpge (tgt := 114) X dX6_readAffairs_98 (by decide) h (fun h => ?_) (fun h => ?_)
  · refine g_aload_n X dX6_readAffairs_114 rfl 0 rfl ?_
    refine g_iconst (v := 0) X dX6_readAffairs_115 (by decide) ?_
    refine fp_X6_155 X ho1 dX6_readAffairs_116 h (fun M18 h => ?_)
    refine g_aload_n X dX6_readAffairs_119 rfl 0 rfl ?_
    refine g_iconst (v := 0) X dX6_readAffairs_120 (by decide) ?_
    refine fp_X6_158 X ho1 dX6_readAffairs_121 h (fun M19 h => ?_)
    exact g_vret X hQ dX6_readAffairs_124 h
  · refine g_aload_n X dX6_readAffairs_101 rfl 0 rfl ?_
    refine fg_X6_152 X ho1 dX6_readAffairs_102 ?_
    refine g_iload_n X dX6_readAffairs_105 rfl 1 rfl ?_
    refine g_iload_n X dX6_readAffairs_106 rfl 1 rfl ?_
    refine g_iast X (af_ia3 ho1) dX6_readAffairs_107 h (fun M20 h => ?_)
    refine g_iinc (w := 1) X dX6_readAffairs_108 1 rfl (by decide) (Nat.le_of_ble_eq_true rfl) rfl (fun x2_21 => [(1, .ref (ad E o1)), (2, .int x2_21)]) (fun _ => rfl) h (fun x2_21 h => ?_)
    refine g_goto (tgt := 96) X dX6_readAffairs_111 (by decide) ?_
    exact h
theorem k_X6_readAffairs_b53 {E : Ek} {x : MC} (X : Cx E x cX6_readAffairs 4 RX6 3) {Post : Mem → Prop} (hQ : QV E x Post none) {o1 : Nat} (ho1 : Aff o1) {M : Mem} {v2 : Int32} (h : wp_X6_readAffairs_b53 Post o1 (fun M v2 => G E x M 2 [(0, .ref (ad E 1)), (1, .ref (ad E o1)), (2, .int v2)] []) (fun M v2 => G E x M 53 [(0, .ref (ad E 1)), (1, .ref (ad E o1)), (2, .int v2)] []) (fun M v2 => G E x M 96 [(1, .ref (ad E o1)), (2, .int v2)] []) M v2) : G E x M 53 [(0, .ref (ad E 1)), (1, .ref (ad E o1)), (2, .int v2)] [] := by
  refine g_iload_n X dX6_readAffairs_53 rfl 2 rfl ?_
  refine g_aload_n X dX6_readAffairs_54 rfl 0 rfl ?_
  refine fg_X6_37 X dX6_readAffairs_55 ?_
  refine g_icmpge (tgt := 94) X dX6_readAffairs_58 (by decide) h (fun h => ?_) (fun h => ?_)
  · refine g_iconst (v := 0) X dX6_readAffairs_94 (by decide) ?_
    refine g_istore_n (lv' := [(0, .ref (ad E 1)), (1, .ref (ad E o1)), (2, .int 0)]) X dX6_readAffairs_95 rfl (Nat.le_of_ble_eq_true rfl) rfl rfl ?_
    exact g_sub [1, 2] rfl h
  · refine g_aload_n X dX6_readAffairs_61 rfl 1 rfl ?_
    refine fg_X6_145 X ho1 dX6_readAffairs_62 ?_
    refine g_iload_n X dX6_readAffairs_65 rfl 2 rfl ?_
    refine g_aload_n X dX6_readAffairs_66 rfl 0 rfl ?_
    refine g_aload_n X dX6_readAffairs_67 rfl 0 rfl ?_
    refine cl_X6_125 X (by decide) (Nat.le_of_ble_eq_true rfl) dX6_readAffairs_68 h (fun r11 M12 h => ?_)
    refine g_iconst (v := 5) X dX6_readAffairs_71 (by decide) ?_
    refine g_iload_n X dX6_readAffairs_72 rfl 2 rfl ?_
    refine g_imul X dX6_readAffairs_73 ?_
    refine g_iadd X dX6_readAffairs_74 ?_
    refine g_iconst (v := 3) X dX6_readAffairs_75 (by decide) ?_
    refine g_iadd X dX6_readAffairs_76 ?_
    refine cl_X6_104 X (by decide) (Nat.le_of_ble_eq_true rfl) dX6_readAffairs_77 h (fun r13 M14 h => ?_)
    refine g_iast X (af_ia4 ho1) dX6_readAffairs_80 h (fun M15 h => ?_)
    refine g_aload_n X dX6_readAffairs_81 rfl 1 rfl ?_
    refine fg_X6_148 X ho1 dX6_readAffairs_82 ?_
    refine g_iload_n X dX6_readAffairs_85 rfl 2 rfl ?_
    refine g_iconst (v := 0) X dX6_readAffairs_86 (by decide) ?_
    refine g_zast X (af_za5 ho1) dX6_readAffairs_87 h (fun M16 h => ?_)
    refine g_iinc (w := 1) X dX6_readAffairs_88 2 rfl (by decide) (Nat.le_of_ble_eq_true rfl) rfl (fun x2_17 => [(0, .ref (ad E 1)), (1, .ref (ad E o1)), (2, .int x2_17)]) (fun _ => rfl) h (fun x2_17 h => ?_)
    refine g_goto (tgt := 53) X dX6_readAffairs_91 (by decide) ?_
    exact h
theorem k_X6_readAffairs_b2 {E : Ek} {x : MC} (X : Cx E x cX6_readAffairs 4 RX6 3) {Post : Mem → Prop} (hQ : QV E x Post none) {o1 : Nat} (ho1 : Aff o1) {M : Mem} {v2 : Int32} (h : wp_X6_readAffairs_b2 Post o1 (fun M v2 => G E x M 2 [(0, .ref (ad E 1)), (1, .ref (ad E o1)), (2, .int v2)] []) (fun M v2 => G E x M 53 [(0, .ref (ad E 1)), (1, .ref (ad E o1)), (2, .int v2)] []) (fun M v2 => G E x M 96 [(1, .ref (ad E o1)), (2, .int v2)] []) M v2) : G E x M 2 [(0, .ref (ad E 1)), (1, .ref (ad E o1)), (2, .int v2)] [] := by
  refine g_iload_n X dX6_readAffairs_2 rfl 2 rfl ?_
  refine g_aload_n X dX6_readAffairs_3 rfl 0 rfl ?_
  refine fg_X6_34 X dX6_readAffairs_4 ?_
  refine g_icmpge (tgt := 51) X dX6_readAffairs_7 (by decide) h (fun h => ?_) (fun h => ?_)
  · refine g_iconst (v := 0) X dX6_readAffairs_51 (by decide) ?_
    refine g_istore_n (lv' := [(0, .ref (ad E 1)), (1, .ref (ad E o1)), (2, .int 0)]) X dX6_readAffairs_52 rfl (Nat.le_of_ble_eq_true rfl) rfl rfl ?_
    exact h
  · refine g_aload_n X dX6_readAffairs_10 rfl 0 rfl ?_
    refine cl_X6_91 X (by decide) (Nat.le_of_ble_eq_true rfl) dX6_readAffairs_11 h (fun r1 M2 h => ?_)
    refine g_iconst (v := 4) X dX6_readAffairs_14 (by decide) ?_
    refine g_iload_n X dX6_readAffairs_15 rfl 2 rfl ?_
    refine g_imul X dX6_readAffairs_16 ?_
    refine g_iadd X dX6_readAffairs_17 ?_
    refine g_nm h (fun x3_3 h => ?_)
    refine g_istore_n (lv' := [(0, .ref (ad E 1)), (1, .ref (ad E o1)), (2, .int v2), (3, .int x3_3)]) X dX6_readAffairs_18 rfl (Nat.le_of_ble_eq_true rfl) rfl rfl ?_
    refine g_aload_n X dX6_readAffairs_19 rfl 1 rfl ?_
    refine fg_X6_137 X ho1 dX6_readAffairs_20 ?_
    refine g_iload_n X dX6_readAffairs_23 rfl 2 rfl ?_
    refine g_aload_n X dX6_readAffairs_24 rfl 0 rfl ?_
    refine g_iload_n X dX6_readAffairs_25 rfl 3 rfl ?_
    refine g_iconst (v := 1) X dX6_readAffairs_26 (by decide) ?_
    refine g_iadd X dX6_readAffairs_27 ?_
    refine cl_X6_104 X (by decide) (Nat.le_of_ble_eq_true rfl) dX6_readAffairs_28 h (fun r4 M5 h => ?_)
    refine g_iast X (af_ia1 ho1) dX6_readAffairs_31 h (fun M6 h => ?_)
    refine g_aload_n X dX6_readAffairs_32 rfl 1 rfl ?_
    refine fg_X6_142 X ho1 dX6_readAffairs_33 ?_
    refine g_iload_n X dX6_readAffairs_36 rfl 2 rfl ?_
    refine g_aload_n X dX6_readAffairs_37 rfl 0 rfl ?_
    refine g_iload_n X dX6_readAffairs_38 rfl 3 rfl ?_
    refine g_iconst (v := 2) X dX6_readAffairs_39 (by decide) ?_
    refine g_iadd X dX6_readAffairs_40 ?_
    refine cl_X6_104 X (by decide) (Nat.le_of_ble_eq_true rfl) dX6_readAffairs_41 h (fun r7 M8 h => ?_)
    refine g_iast X (af_ia2 ho1) dX6_readAffairs_44 h (fun M9 h => ?_)
    refine g_iinc (w := 1) X dX6_readAffairs_45 2 rfl (by decide) (Nat.le_of_ble_eq_true rfl) rfl (fun x2_10 => [(0, .ref (ad E 1)), (1, .ref (ad E o1)), (2, .int x2_10), (3, .int x3_3)]) (fun _ => rfl) h (fun x2_10 h => ?_)
    refine g_goto (tgt := 2) X dX6_readAffairs_48 (by decide) ?_
    exact g_sub [0, 1, 2] rfl h
theorem w_X6_readAffairs (E : Ek) (l : Launch) {o1 : Nat} (ho1 : Aff o1) {M : Mem} {Post : Mem → Prop} (h : wp_X6_readAffairs Post M o1) : ctV E l yX6_readAffairs cX6_readAffairs 4 none 3 [.ref (ad E 1), .ref (ad E o1)] M Post := by
  refine ct_of (by decide) (Nat.le_of_ble_eq_true rfl) (fun x X hQ => ?_)
  have h := h (fun M v2 => G E x M 2 [(0, .ref (ad E 1)), (1, .ref (ad E o1)), (2, .int v2)] []) (fun M v2 => G E x M 53 [(0, .ref (ad E 1)), (1, .ref (ad E o1)), (2, .int v2)] []) (fun M v2 => G E x M 96 [(1, .ref (ad E o1)), (2, .int v2)] []) (fun M v2 h => k_X6_readAffairs_b2 X hQ ho1 h) (fun M v2 h => k_X6_readAffairs_b53 X hQ ho1 h) (fun M v2 h => k_X6_readAffairs_b96 X hQ ho1 h)
  change G E x M 0 [(0, .ref (ad E 1)), (1, .ref (ad E o1))] []
  refine g_iconst (v := 0) X dX6_readAffairs_0 (by decide) ?_
  refine g_istore_n (lv' := [(0, .ref (ad E 1)), (1, .ref (ad E o1)), (2, .int 0)]) X dX6_readAffairs_1 rfl (Nat.le_of_ble_eq_true rfl) rfl rfl ?_
  exact h
theorem cw_X11_isNobody : CW yX11_isNobody cX11_isNobody 2 (some .boolean) 1 := ⟨m62, m10, Nat.le_of_ble_eq_true rfl, by decide +kernel⟩
def wp_X11_isNobody (Post : Int32 → Mem → Prop) (M : Mem) (v1 : Int32) : Prop :=
 (v1 < 0 →
  Post 1 M) ∧
 (¬ v1 < 0 →
  (v1 < (rd M 3 2) →
   Post 0 M) ∧
  (¬ v1 < (rd M 3 2) →
   Post 1 M))
theorem w_X11_isNobody (E : Ek) (l : Launch) {v1 : Int32} {M : Mem} {Post : Int32 → Mem → Prop} (h : wp_X11_isNobody Post M v1) : ctI E l yX11_isNobody cX11_isNobody 2 (some .boolean) 1 [.ref (ad E 0), .int v1] M Post := by
  refine ct_of (by decide) (Nat.le_of_ble_eq_true rfl) (fun x X hQ => ?_)
  change G E x M 0 [(0, .ref (ad E 0)), (1, .int v1)] []
  refine g_iload_n X dX11_isNobody_0 rfl 1 rfl ?_
  refine g_iflt (tgt := 15) X dX11_isNobody_1 (by decide) h (fun h => ?_) (fun h => ?_)
  · refine g_iconst (v := 1) X dX11_isNobody_15 (by decide) ?_
    refine g_goto (tgt := 20) X dX11_isNobody_16 (by decide) ?_
    exact g_zret X hQ dX11_isNobody_20 ⟨Or.inr rfl, h⟩
  · refine g_iload_n X dX11_isNobody_4 rfl 1 rfl ?_
    refine g_aload_n X dX11_isNobody_5 rfl 0 rfl ?_
    refine fg_X11_19 X dX11_isNobody_6 ?_
    refine fg_X11_90 X dX11_isNobody_9 ?_
    refine g_icmplt (tgt := 19) X dX11_isNobody_12 (by decide) h (fun h => ?_) (fun h => ?_)
    · refine g_iconst (v := 0) X dX11_isNobody_19 (by decide) ?_
      exact g_zret X hQ dX11_isNobody_20 ⟨Or.inl rfl, h⟩
    · refine g_iconst (v := 1) X dX11_isNobody_15 (by decide) ?_
      refine g_goto (tgt := 20) X dX11_isNobody_16 (by decide) ?_
      exact g_zret X hQ dX11_isNobody_20 ⟨Or.inr rfl, h⟩
theorem cl_X11_93 {E : Ek} {x : MC} {cc : ByteArray} {nL hm pc : Nat} {M : Mem} {lv : List (Nat × Value)} {st : List Value} (X : Cx E x cc nL RX11 hm) {v1 : Int32} {Post : Int32 → Mem → Prop} (hr : 1 < hm) (hW : (st.map fun v => v.category).sum ≤ 8) (hd : decode cc pc = .ok (.invokevirtual 93, 3)) (h : wp_X11_isNobody Post M v1) (kk : ∀ r M1, Post r M1 → G E x M1 (pc + 3) lv (.int r :: st)) : G E x M pc lv (.int v1 :: .ref (ad E 0) :: st) := k_I (fun hP hS hL => run_V X (w_X11_isNobody E (xl x)  h) cw_X11_isNobody m146 m147 m148 (⟨by decide, fun E f h => ⟨_, _, _, rfl, rfl, rfl⟩⟩ : OC 0 RX11) hr rfl hd hW hP hS hL) kk
theorem cw_X0_keyBits : CW yX0_keyBits cX0_keyBits 4 (some .int) 1 := ⟨m74, m75, Nat.le_of_ble_eq_true rfl, by decide +kernel⟩
def wp_X0_keyBits_b4 (Post : Int32 → Mem → Prop) (o : Nat) (v1 : Int32) (P4 : Mem → Int32 → Int32 → Prop) (M : Mem) (v2 : Int32) (v3 : Int32) : Prop :=
 (2 ≤ v3 →
  Post v2 M) ∧
 (¬ 2 ≤ v3 →
  vp_in v3 2 ∧
  (¬ (rd M (o + 3) v3.toNatClampNeg) = v1 →
   ∀ x3_1 : Int32, x3_1 = v3 + 1 →
   P4 M v2 x3_1) ∧
  ((rd M (o + 3) v3.toNatClampNeg) = v1 →
   ∀ x2_2 : Int32, x2_2 = v2 ||| ((1 : Int32) <<< (v3 &&& 31)) →
   ∀ x3_3 : Int32, x3_3 = v3 + 1 →
   P4 M x2_2 x3_3))
def wp_X0_keyBits (Post : Int32 → Mem → Prop) (M : Mem) (o : Nat) (v1 : Int32) : Prop :=
 ∀ (P4 : Mem → Int32 → Int32 → Prop) ,
  (∀ (M : Mem) (v2 : Int32) (v3 : Int32), wp_X0_keyBits_b4 Post o v1 P4 M v2 v3 → P4 M v2 v3) →
 P4 M 0 0
theorem k_X0_keyBits_b4 {E : Ek} {x : MC} (X : Cx E x cX0_keyBits 4 RX0 1) {Post : Int32 → Mem → Prop} (hQ : QI E x Post (some .int)) {o : Nat} {v1 : Int32} (ho : Aff o) {M : Mem} {v2 : Int32} {v3 : Int32} (h : wp_X0_keyBits_b4 Post o v1 (fun M v2 v3 => G E x M 4 [(0, .ref (ad E o)), (1, .int v1), (2, .int v2), (3, .int v3)] []) M v2 v3) : G E x M 4 [(0, .ref (ad E o)), (1, .int v1), (2, .int v2), (3, .int v3)] [] := by
  refine g_iload_n X dX0_keyBits_4 rfl 3 rfl ?_
  refine g_iconst (v := 2) X dX0_keyBits_5 (by decide) ?_
  refine g_icmpge (tgt := 31) X dX0_keyBits_6 (by decide) h (fun h => ?_) (fun h => ?_)
  · refine g_iload_n X dX0_keyBits_31 rfl 2 rfl ?_
    exact g_iret X hQ dX0_keyBits_32 h
  · refine g_aload_n X dX0_keyBits_9 rfl 0 rfl ?_
    refine fg_X0_18 X ho dX0_keyBits_10 ?_
    refine g_iload_n X dX0_keyBits_13 rfl 3 rfl ?_
    refine g_iald X (af_ia3 ho) dX0_keyBits_14 h (fun h => ?_)
    refine g_iload_n X dX0_keyBits_15 rfl 1 rfl ?_
    refine g_icmpne (tgt := 25) X dX0_keyBits_16 (by decide) h (fun h => ?_) (fun h => ?_)
    · refine g_iinc (w := 1) X dX0_keyBits_25 3 rfl (by decide) (Nat.le_of_ble_eq_true rfl) rfl (fun x3_1 => [(0, .ref (ad E o)), (1, .int v1), (2, .int v2), (3, .int x3_1)]) (fun _ => rfl) h (fun x3_1 h => ?_)
      refine g_goto (tgt := 4) X dX0_keyBits_28 (by decide) ?_
      exact h
    · refine g_iload_n X dX0_keyBits_19 rfl 2 rfl ?_
      refine g_iconst (v := 1) X dX0_keyBits_20 (by decide) ?_
      refine g_iload_n X dX0_keyBits_21 rfl 3 rfl ?_
      refine g_ishl X dX0_keyBits_22 ?_
      refine g_ior X dX0_keyBits_23 ?_
      refine g_nm h (fun x2_2 h => ?_)
      refine g_istore_n (lv' := [(0, .ref (ad E o)), (1, .int v1), (2, .int x2_2), (3, .int v3)]) X dX0_keyBits_24 rfl (Nat.le_of_ble_eq_true rfl) rfl rfl ?_
      refine g_iinc (w := 1) X dX0_keyBits_25 3 rfl (by decide) (Nat.le_of_ble_eq_true rfl) rfl (fun x3_3 => [(0, .ref (ad E o)), (1, .int v1), (2, .int x2_2), (3, .int x3_3)]) (fun _ => rfl) h (fun x3_3 h => ?_)
      refine g_goto (tgt := 4) X dX0_keyBits_28 (by decide) ?_
      exact h
theorem w_X0_keyBits (E : Ek) (l : Launch) {o : Nat} {v1 : Int32} (ho : Aff o) {M : Mem} {Post : Int32 → Mem → Prop} (h : wp_X0_keyBits Post M o v1) : ctI E l yX0_keyBits cX0_keyBits 4 (some .int) 1 [.ref (ad E o), .int v1] M Post := by
  refine ct_of (by decide) (Nat.le_of_ble_eq_true rfl) (fun x X hQ => ?_)
  have h := h (fun M v2 v3 => G E x M 4 [(0, .ref (ad E o)), (1, .int v1), (2, .int v2), (3, .int v3)] []) (fun M v2 v3 h => k_X0_keyBits_b4 X hQ ho h)
  change G E x M 0 [(0, .ref (ad E o)), (1, .int v1)] []
  refine g_iconst (v := 0) X dX0_keyBits_0 (by decide) ?_
  refine g_istore_n (lv' := [(0, .ref (ad E o)), (1, .int v1), (2, .int 0)]) X dX0_keyBits_1 rfl (Nat.le_of_ble_eq_true rfl) rfl rfl ?_
  refine g_iconst (v := 0) X dX0_keyBits_2 (by decide) ?_
  refine g_istore_n (lv' := [(0, .ref (ad E o)), (1, .int v1), (2, .int 0), (3, .int 0)]) X dX0_keyBits_3 rfl (Nat.le_of_ble_eq_true rfl) rfl rfl ?_
  exact h
theorem cl_X11_113 {E : Ek} {x : MC} {cc : ByteArray} {nL hm pc : Nat} {M : Mem} {lv : List (Nat × Value)} {st : List Value} (X : Cx E x cc nL RX11 hm) {o : Nat} {v1 : Int32} (ho : Aff o) {Post : Int32 → Mem → Prop} (hr : 1 < hm) (hW : (st.map fun v => v.category).sum ≤ 8) (hd : decode cc pc = .ok (.invokevirtual 113, 3)) (h : wp_X0_keyBits Post M o v1) (kk : ∀ r M1, Post r M1 → G E x M1 (pc + 3) lv (.int r :: st)) : G E x M pc lv (.int v1 :: .ref (ad E o) :: st) := k_I (fun hP hS hL => run_VN X (w_X0_keyBits E (xl x) ho h) cw_X0_keyBits m153 m154 m155 (af_oc ho) hr rfl hd hW hP hS hL) kk
theorem cw_X4_doorEndsAt : CW yX4_doorEndsAt cX4_doorEndsAt 3 (some .boolean) 2 := ⟨m78, m79, Nat.le_of_ble_eq_true rfl, by decide +kernel⟩
def wp_X4_doorEndsAt (Post : Int32 → Mem → Prop) (M : Mem) (v1 : Int32) (v2 : Int32) : Prop :=
 vp_in v1 6 ∧
 ((rd M 4 v1.toNatClampNeg) = v2 →
  Post 1 M) ∧
 (¬ (rd M 4 v1.toNatClampNeg) = v2 →
  vp_in v1 6 ∧
  (¬ (rd M 5 v1.toNatClampNeg) = v2 →
   Post 0 M) ∧
  ((rd M 5 v1.toNatClampNeg) = v2 →
   Post 1 M))
theorem w_X4_doorEndsAt (E : Ek) (l : Launch) {v1 : Int32} {v2 : Int32} {M : Mem} {Post : Int32 → Mem → Prop} (h : wp_X4_doorEndsAt Post M v1 v2) : ctI E l yX4_doorEndsAt cX4_doorEndsAt 3 (some .boolean) 1 [.ref (ad E 3), .int v1, .int v2] M Post := by
  refine ct_of (by decide) (Nat.le_of_ble_eq_true rfl) (fun x X hQ => ?_)
  change G E x M 0 [(0, .ref (ad E 3)), (1, .int v1), (2, .int v2)] []
  refine g_aload_n X dX4_doorEndsAt_0 rfl 0 rfl ?_
  refine fg_X4_9 X dX4_doorEndsAt_1 ?_
  refine g_iload_n X dX4_doorEndsAt_4 rfl 1 rfl ?_
  refine g_iald X ia_4 dX4_doorEndsAt_5 h (fun h => ?_)
  refine g_iload_n X dX4_doorEndsAt_6 rfl 2 rfl ?_
  refine g_icmpeq (tgt := 20) X dX4_doorEndsAt_7 (by decide) h (fun h => ?_) (fun h => ?_)
  · refine g_iconst (v := 1) X dX4_doorEndsAt_20 (by decide) ?_
    refine g_goto (tgt := 25) X dX4_doorEndsAt_21 (by decide) ?_
    exact g_zret X hQ dX4_doorEndsAt_25 ⟨Or.inr rfl, h⟩
  · refine g_aload_n X dX4_doorEndsAt_10 rfl 0 rfl ?_
    refine fg_X4_15 X dX4_doorEndsAt_11 ?_
    refine g_iload_n X dX4_doorEndsAt_14 rfl 1 rfl ?_
    refine g_iald X ia_5 dX4_doorEndsAt_15 h (fun h => ?_)
    refine g_iload_n X dX4_doorEndsAt_16 rfl 2 rfl ?_
    refine g_icmpne (tgt := 24) X dX4_doorEndsAt_17 (by decide) h (fun h => ?_) (fun h => ?_)
    · refine g_iconst (v := 0) X dX4_doorEndsAt_24 (by decide) ?_
      exact g_zret X hQ dX4_doorEndsAt_25 ⟨Or.inl rfl, h⟩
    · refine g_iconst (v := 1) X dX4_doorEndsAt_20 (by decide) ?_
      refine g_goto (tgt := 25) X dX4_doorEndsAt_21 (by decide) ?_
      exact g_zret X hQ dX4_doorEndsAt_25 ⟨Or.inr rfl, h⟩
theorem cl_X0_60 {E : Ek} {x : MC} {cc : ByteArray} {nL hm pc : Nat} {M : Mem} {lv : List (Nat × Value)} {st : List Value} (X : Cx E x cc nL RX0 hm) {v1 : Int32} {v2 : Int32} {Post : Int32 → Mem → Prop} (hr : 1 < hm) (hW : (st.map fun v => v.category).sum ≤ 8) (hd : decode cc pc = .ok (.invokevirtual 60, 3)) (h : wp_X4_doorEndsAt Post M v1 v2) (kk : ∀ r M1, Post r M1 → G E x M1 (pc + 3) lv (.int r :: st)) : G E x M pc lv (.int v2 :: .int v1 :: .ref (ad E 3) :: st) := k_I (fun hP hS hL => run_VN X (w_X4_doorEndsAt E (xl x)  h) cw_X4_doorEndsAt m88 m89 m90 (⟨by decide, fun E f h => ⟨_, _, _, rfl, rfl, rfl⟩⟩ : OC 3 RX4) hr rfl hd hW hP hS hL) kk
theorem cl_X10_65 {E : Ek} {x : MC} {cc : ByteArray} {nL hm pc : Nat} {M : Mem} {lv : List (Nat × Value)} {st : List Value} (X : Cx E x cc nL RX10 hm) {v1 : Int32} {v2 : Int32} {Post : Int32 → Mem → Prop} (hr : 1 < hm) (hW : (st.map fun v => v.category).sum ≤ 8) (hd : decode cc pc = .ok (.invokevirtual 65, 3)) (h : wp_X4_doorEndsAt Post M v1 v2) (kk : ∀ r M1, Post r M1 → G E x M1 (pc + 3) lv (.int r :: st)) : G E x M pc lv (.int v2 :: .int v1 :: .ref (ad E 3) :: st) := k_I (fun hP hS hL => run_VN X (w_X4_doorEndsAt E (xl x)  h) cw_X4_doorEndsAt m243 m89 m90 (⟨by decide, fun E f h => ⟨_, _, _, rfl, rfl, rfl⟩⟩ : OC 3 RX4) hr rfl hd hW hP hS hL) kk
theorem cw_X0_mayPass : CW yX0_mayPass cX0_mayPass 6 (some .boolean) 2 := ⟨m86, m75, Nat.le_of_ble_eq_true rfl, by decide +kernel⟩
def wp_X0_mayPass_b46 (Post : Int32 → Mem → Prop) (o : Nat) (v1 : Int32) (v2 : Int32) (M : Mem) (v4 : Int32) (s0 : Int32) : Prop :=
 vp_in v1 4 ∧
 wpv_passes (fun r2 M3 =>
  zb r2 ∧ Post r2 M3) M (11 + v1.toNatClampNeg) v4 s0
def wp_X0_mayPass_b45 (Post : Int32 → Mem → Prop) (o : Nat) (v1 : Int32) (v2 : Int32) (M : Mem) (v4 : Int32) : Prop :=
 wp_X0_mayPass_b46 Post o v1 v2 M v4 0
def wp_X0_mayPass_b24 (Post : Int32 → Mem → Prop) (o : Nat) (v1 : Int32) (v2 : Int32) (M : Mem) (v3 : Int32) (s0 : Int32) : Prop :=
 (s0 = 0 →
  wp_X0_mayPass_b45 Post o v1 v2 M s0) ∧
 (¬ s0 = 0 →
  vp_in v3 2 ∧
  (¬ (rd M (o + 3) v3.toNatClampNeg) = v1 →
   wp_X0_mayPass_b45 Post o v1 v2 M s0) ∧
  ((rd M (o + 3) v3.toNatClampNeg) = v1 →
   wp_X0_mayPass_b46 Post o v1 v2 M s0 1))
def wp_X0_mayPass_b23 (Post : Int32 → Mem → Prop) (o : Nat) (v1 : Int32) (v2 : Int32) (M : Mem) (v3 : Int32) : Prop :=
 wp_X0_mayPass_b24 Post o v1 v2 M v3 0
def wp_X0_mayPass (Post : Int32 → Mem → Prop) (M : Mem) (o : Nat) (v1 : Int32) (v2 : Int32) : Prop :=
 vp_in v2 6 ∧
 ∀ x3_1 : Int32, x3_1 = rd M 6 v2.toNatClampNeg →
 (x3_1 < 0 →
  wp_X0_mayPass_b23 Post o v1 v2 M x3_1) ∧
 (¬ x3_1 < 0 →
  (2 ≤ x3_1 →
   wp_X0_mayPass_b23 Post o v1 v2 M x3_1) ∧
  (¬ 2 ≤ x3_1 →
   wp_X0_mayPass_b24 Post o v1 v2 M x3_1 1))
theorem k_X0_mayPass_b46 {E : Ek} {x : MC} (X : Cx E x cX0_mayPass 6 RX0 2) {Post : Int32 → Mem → Prop} (hQ : QI E x Post (some .boolean)) {o : Nat} {v1 : Int32} {v2 : Int32} (ho : Aff o) {M : Mem} {v4 : Int32} {s0 : Int32} (h : wp_X0_mayPass_b46 Post o v1 v2 M v4 s0) : G E x M 46 [(0, .ref (ad E o)), (1, .int v1), (4, .int v4)] [.int s0] := by
  refine g_istore (lv' := [(0, .ref (ad E o)), (1, .int v1), (4, .int v4), (5, .int s0)]) X dX0_mayPass_46 (Nat.le_of_ble_eq_true rfl) rfl rfl ?_
  refine g_aload_n X dX0_mayPass_48 rfl 0 rfl ?_
  refine fg_X0_34 X ho dX0_mayPass_49 ?_
  refine fg_X0_50 X dX0_mayPass_52 ?_
  refine g_iload_n X dX0_mayPass_55 rfl 1 rfl ?_
  refine g_pald X dX0_mayPass_56 h (fun hi1 h => ?_)
  refine g_iload X dX0_mayPass_57 2 rfl ?_
  refine g_iload X dX0_mayPass_59 3 rfl ?_
  refine cv_X0_54 X (prs_of hi1) (by decide) (Nat.le_of_ble_eq_true rfl) dX0_mayPass_61 h (fun r2 M3 h => ?_)
  exact g_zret X hQ dX0_mayPass_64 h
theorem k_X0_mayPass_b45 {E : Ek} {x : MC} (X : Cx E x cX0_mayPass 6 RX0 2) {Post : Int32 → Mem → Prop} (hQ : QI E x Post (some .boolean)) {o : Nat} {v1 : Int32} {v2 : Int32} (ho : Aff o) {M : Mem} {v4 : Int32} (h : wp_X0_mayPass_b45 Post o v1 v2 M v4) : G E x M 45 [(0, .ref (ad E o)), (1, .int v1), (4, .int v4)] [] := by
  refine g_iconst (v := 0) X dX0_mayPass_45 (by decide) ?_
  exact (k_X0_mayPass_b46 X hQ ho h)
theorem k_X0_mayPass_b24 {E : Ek} {x : MC} (X : Cx E x cX0_mayPass 6 RX0 2) {Post : Int32 → Mem → Prop} (hQ : QI E x Post (some .boolean)) {o : Nat} {v1 : Int32} {v2 : Int32} (ho : Aff o) {M : Mem} {v3 : Int32} {s0 : Int32} (h : wp_X0_mayPass_b24 Post o v1 v2 M v3 s0) : G E x M 24 [(0, .ref (ad E o)), (1, .int v1), (3, .int v3)] [.int s0] := by
  refine g_istore (lv' := [(0, .ref (ad E o)), (1, .int v1), (3, .int v3), (4, .int s0)]) X dX0_mayPass_24 (Nat.le_of_ble_eq_true rfl) rfl rfl ?_
  refine g_iload X dX0_mayPass_26 3 rfl ?_
  refine g_ifeq (tgt := 45) X dX0_mayPass_28 (by decide) h (fun h => ?_) (fun h => ?_)
  · exact g_sub [0, 1, 3] rfl (k_X0_mayPass_b45 X hQ ho h)
  · refine g_aload_n X dX0_mayPass_31 rfl 0 rfl ?_
    refine fg_X0_18 X ho dX0_mayPass_32 ?_
    refine g_iload_n X dX0_mayPass_35 rfl 2 rfl ?_
    refine g_iald X (af_ia3 ho) dX0_mayPass_36 h (fun h => ?_)
    refine g_iload_n X dX0_mayPass_37 rfl 1 rfl ?_
    refine g_icmpne (tgt := 45) X dX0_mayPass_38 (by decide) h (fun h => ?_) (fun h => ?_)
    · exact g_sub [0, 1, 3] rfl (k_X0_mayPass_b45 X hQ ho h)
    · refine g_iconst (v := 1) X dX0_mayPass_41 (by decide) ?_
      refine g_goto (tgt := 46) X dX0_mayPass_42 (by decide) ?_
      exact g_sub [0, 1, 3] rfl (k_X0_mayPass_b46 X hQ ho h)
theorem k_X0_mayPass_b23 {E : Ek} {x : MC} (X : Cx E x cX0_mayPass 6 RX0 2) {Post : Int32 → Mem → Prop} (hQ : QI E x Post (some .boolean)) {o : Nat} {v1 : Int32} {v2 : Int32} (ho : Aff o) {M : Mem} {v3 : Int32} (h : wp_X0_mayPass_b23 Post o v1 v2 M v3) : G E x M 23 [(0, .ref (ad E o)), (1, .int v1), (3, .int v3)] [] := by
  refine g_iconst (v := 0) X dX0_mayPass_23 (by decide) ?_
  exact (k_X0_mayPass_b24 X hQ ho h)
theorem w_X0_mayPass (E : Ek) (l : Launch) {o : Nat} {v1 : Int32} {v2 : Int32} (ho : Aff o) {M : Mem} {Post : Int32 → Mem → Prop} (h : wp_X0_mayPass Post M o v1 v2) : ctI E l yX0_mayPass cX0_mayPass 6 (some .boolean) 2 [.ref (ad E o), .int v1, .int v2] M Post := by
  refine ct_of (by decide) (Nat.le_of_ble_eq_true rfl) (fun x X hQ => ?_)
  change G E x M 0 [(0, .ref (ad E o)), (1, .int v1), (2, .int v2)] []
  refine g_aload_n X dX0_mayPass_0 rfl 0 rfl ?_
  refine fg_X0_34 X ho dX0_mayPass_1 ?_
  refine fg_X0_45 X dX0_mayPass_4 ?_
  refine g_iload_n X dX0_mayPass_7 rfl 2 rfl ?_
  refine g_iald X ia_6 dX0_mayPass_8 h (fun h => ?_)
  refine g_nm h (fun x3_1 h => ?_)
  refine g_istore_n (lv' := [(0, .ref (ad E o)), (1, .int v1), (2, .int v2), (3, .int x3_1)]) X dX0_mayPass_9 rfl (Nat.le_of_ble_eq_true rfl) rfl rfl ?_
  refine g_iload_n X dX0_mayPass_10 rfl 3 rfl ?_
  refine g_iflt (tgt := 23) X dX0_mayPass_11 (by decide) h (fun h => ?_) (fun h => ?_)
  · exact g_sub [0, 1, 3] rfl (k_X0_mayPass_b23 X hQ ho h)
  · refine g_iload_n X dX0_mayPass_14 rfl 3 rfl ?_
    refine g_iconst (v := 2) X dX0_mayPass_15 (by decide) ?_
    refine g_icmpge (tgt := 23) X dX0_mayPass_16 (by decide) h (fun h => ?_) (fun h => ?_)
    · exact g_sub [0, 1, 3] rfl (k_X0_mayPass_b23 X hQ ho h)
    · refine g_iconst (v := 1) X dX0_mayPass_19 (by decide) ?_
      refine g_goto (tgt := 24) X dX0_mayPass_20 (by decide) ?_
      exact g_sub [0, 1, 3] rfl (k_X0_mayPass_b24 X hQ ho h)
theorem cl_X0_64 {E : Ek} {x : MC} {cc : ByteArray} {nL hm pc : Nat} {M : Mem} {lv : List (Nat × Value)} {st : List Value} (X : Cx E x cc nL RX0 hm) {o : Nat} {v1 : Int32} {v2 : Int32} (ho : Aff o) {Post : Int32 → Mem → Prop} (hr : 2 < hm) (hW : (st.map fun v => v.category).sum ≤ 8) (hd : decode cc pc = .ok (.invokevirtual 64, 3)) (h : wp_X0_mayPass Post M o v1 v2) (kk : ∀ r M1, Post r M1 → G E x M1 (pc + 3) lv (.int r :: st)) : G E x M pc lv (.int v2 :: .int v1 :: .ref (ad E o) :: st) := k_I (fun hP hS hL => run_V X (w_X0_mayPass E (xl x) ho h) cw_X0_mayPass m91 m92 m93 (af_oc ho) hr rfl hd hW hP hS hL) kk
theorem cl_X10_51 {E : Ek} {x : MC} {cc : ByteArray} {nL hm pc : Nat} {M : Mem} {lv : List (Nat × Value)} {st : List Value} (X : Cx E x cc nL RX10 hm) {o : Nat} {v1 : Int32} {v2 : Int32} (ho : Aff o) {Post : Int32 → Mem → Prop} (hr : 2 < hm) (hW : (st.map fun v => v.category).sum ≤ 8) (hd : decode cc pc = .ok (.invokevirtual 51, 3)) (h : wp_X0_mayPass Post M o v1 v2) (kk : ∀ r M1, Post r M1 → G E x M1 (pc + 3) lv (.int r :: st)) : G E x M pc lv (.int v2 :: .int v1 :: .ref (ad E o) :: st) := k_I (fun hP hS hL => run_VN X (w_X0_mayPass E (xl x) ho h) cw_X0_mayPass m231 m92 m93 (af_oc ho) hr rfl hd hW hP hS hL) kk
theorem cw_X0_mayGo : CW yX0_mayGo cX0_mayGo 3 (some .boolean) 2 := ⟨m94, m75, Nat.le_of_ble_eq_true rfl, by decide +kernel⟩
def wp_X0_mayGo (Post : Int32 → Mem → Prop) (M : Mem) (o : Nat) (v1 : Int32) (v2 : Int32) : Prop :=
 vp_in v1 4 ∧
 wp_X4_doorEndsAt (fun r1 M2 =>
  (r1 = 0 →
   Post 0 M2) ∧
  (¬ r1 = 0 →
   wp_X0_mayPass (fun r3 M4 =>
    (r3 = 0 →
     Post 0 M4) ∧
    (¬ r3 = 0 →
     Post 1 M4)) M2 o v1 v2)) M v2 (rd M (o + 2) v1.toNatClampNeg)
theorem w_X0_mayGo (E : Ek) (l : Launch) {o : Nat} {v1 : Int32} {v2 : Int32} (ho : Aff o) {M : Mem} {Post : Int32 → Mem → Prop} (h : wp_X0_mayGo Post M o v1 v2) : ctI E l yX0_mayGo cX0_mayGo 3 (some .boolean) 3 [.ref (ad E o), .int v1, .int v2] M Post := by
  refine ct_of (by decide) (Nat.le_of_ble_eq_true rfl) (fun x X hQ => ?_)
  change G E x M 0 [(0, .ref (ad E o)), (1, .int v1), (2, .int v2)] []
  refine g_aload_n X dX0_mayGo_0 rfl 0 rfl ?_
  refine fg_X0_34 X ho dX0_mayGo_1 ?_
  refine g_iload_n X dX0_mayGo_4 rfl 2 rfl ?_
  refine g_aload_n X dX0_mayGo_5 rfl 0 rfl ?_
  refine fg_X0_15 X ho dX0_mayGo_6 ?_
  refine g_iload_n X dX0_mayGo_9 rfl 1 rfl ?_
  refine g_iald X (af_ia2 ho) dX0_mayGo_10 h (fun h => ?_)
  refine cl_X0_60 X (by decide) (Nat.le_of_ble_eq_true rfl) dX0_mayGo_11 h (fun r1 M2 h => ?_)
  refine g_ifeq (tgt := 30) X dX0_mayGo_14 (by decide) h (fun h => ?_) (fun h => ?_)
  · refine g_iconst (v := 0) X dX0_mayGo_30 (by decide) ?_
    exact g_zret X hQ dX0_mayGo_31 ⟨Or.inl rfl, h⟩
  · refine g_aload_n X dX0_mayGo_17 rfl 0 rfl ?_
    refine g_iload_n X dX0_mayGo_18 rfl 1 rfl ?_
    refine g_iload_n X dX0_mayGo_19 rfl 2 rfl ?_
    refine cl_X0_64 X ho (by decide) (Nat.le_of_ble_eq_true rfl) dX0_mayGo_20 h (fun r3 M4 h => ?_)
    refine g_ifeq (tgt := 30) X dX0_mayGo_23 (by decide) h (fun h => ?_) (fun h => ?_)
    · refine g_iconst (v := 0) X dX0_mayGo_30 (by decide) ?_
      exact g_zret X hQ dX0_mayGo_31 ⟨Or.inl rfl, h⟩
    · refine g_iconst (v := 1) X dX0_mayGo_26 (by decide) ?_
      refine g_goto (tgt := 31) X dX0_mayGo_27 (by decide) ?_
      exact g_zret X hQ dX0_mayGo_31 ⟨Or.inr rfl, h⟩
theorem cl_X0_121 {E : Ek} {x : MC} {cc : ByteArray} {nL hm pc : Nat} {M : Mem} {lv : List (Nat × Value)} {st : List Value} (X : Cx E x cc nL RX0 hm) {o : Nat} {v1 : Int32} {v2 : Int32} (ho : Aff o) {Post : Int32 → Mem → Prop} (hr : 3 < hm) (hW : (st.map fun v => v.category).sum ≤ 8) (hd : decode cc pc = .ok (.invokevirtual 121, 3)) (h : wp_X0_mayGo Post M o v1 v2) (kk : ∀ r M1, Post r M1 → G E x M1 (pc + 3) lv (.int r :: st)) : G E x M pc lv (.int v2 :: .int v1 :: .ref (ad E o) :: st) := k_I (fun hP hS hL => run_V X (w_X0_mayGo E (xl x) ho h) cw_X0_mayGo m96 m97 m98 (af_oc ho) hr rfl hd hW hP hS hL) kk
theorem cl_X11_170 {E : Ek} {x : MC} {cc : ByteArray} {nL hm pc : Nat} {M : Mem} {lv : List (Nat × Value)} {st : List Value} (X : Cx E x cc nL RX11 hm) {o : Nat} {v1 : Int32} {v2 : Int32} (ho : Aff o) {Post : Int32 → Mem → Prop} (hr : 3 < hm) (hW : (st.map fun v => v.category).sum ≤ 8) (hd : decode cc pc = .ok (.invokevirtual 170, 3)) (h : wp_X0_mayGo Post M o v1 v2) (kk : ∀ r M1, Post r M1 → G E x M1 (pc + 3) lv (.int r :: st)) : G E x M pc lv (.int v2 :: .int v1 :: .ref (ad E o) :: st) := k_I (fun hP hS hL => run_VN X (w_X0_mayGo E (xl x) ho h) cw_X0_mayGo m203 m97 m98 (af_oc ho) hr rfl hd hW hP hS hL) kk
theorem cl_X5_56 {E : Ek} {x : MC} {cc : ByteArray} {nL hm pc : Nat} {M : Mem} {lv : List (Nat × Value)} {st : List Value} (X : Cx E x cc nL RX5 hm) {o : Nat} {v1 : Int32} {v2 : Int32} (ho : Aff o) {Post : Int32 → Mem → Prop} (hr : 3 < hm) (hW : (st.map fun v => v.category).sum ≤ 8) (hd : decode cc pc = .ok (.invokevirtual 56, 3)) (h : wp_X0_mayGo Post M o v1 v2) (kk : ∀ r M1, Post r M1 → G E x M1 (pc + 3) lv (.int r :: st)) : G E x M pc lv (.int v2 :: .int v1 :: .ref (ad E o) :: st) := k_I (fun hP hS hL => run_VN X (w_X0_mayGo E (xl x) ho h) cw_X0_mayGo m278 m97 m98 (af_oc ho) hr rfl hd hW hP hS hL) kk
