theorem cw_X12_lacks : CW yX12_lacks cX12_lacks 1 (some .boolean) 0 := ⟨m570, m499, Nat.le_of_ble_eq_true rfl, by decide +kernel⟩
def wp_X12_lacks (Post : Int32 → Mem → Prop) (M : Mem) : Prop :=
 (¬ (rd M 29 6) = 0 →
  Post 0 M) ∧
 ((rd M 29 6) = 0 →
  Post 1 M)
theorem w_X12_lacks (E : Ek) (l : Launch) {M : Mem} {Post : Int32 → Mem → Prop} (h : wp_X12_lacks Post M ) : ctI E l yX12_lacks cX12_lacks 1 (some .boolean) 1 [.ref (ad E 29)] M Post := by
  refine ct_of (by decide) (Nat.le_of_ble_eq_true rfl) (fun x X hQ => ?_)
  change G E x M 0 [(0, .ref (ad E 29))] []
  refine g_aload_n X dX12_lacks_0 rfl 0 rfl ?_
  refine fg_X12_159 X dX12_lacks_1 ?_
  refine g_ifne (tgt := 11) X dX12_lacks_4 (by decide) h (fun h => ?_) (fun h => ?_)
  · refine g_iconst (v := 0) X dX12_lacks_11 (by decide) ?_
    exact g_zret X hQ dX12_lacks_12 ⟨Or.inl rfl, h⟩
  · refine g_iconst (v := 1) X dX12_lacks_7 (by decide) ?_
    refine g_goto (tgt := 12) X dX12_lacks_8 (by decide) ?_
    exact g_zret X hQ dX12_lacks_12 ⟨Or.inr rfl, h⟩
theorem cl_X12_286 {E : Ek} {x : MC} {cc : ByteArray} {nL hm pc : Nat} {M : Mem} {lv : List (Nat × Value)} {st : List Value} (X : Cx E x cc nL RX12 hm) {Post : Int32 → Mem → Prop} (hr : 1 < hm) (hW : (st.map fun v => v.category).sum ≤ 8) (hd : decode cc pc = .ok (.invokevirtual 286, 3)) (h : wp_X12_lacks Post M ) (kk : ∀ r M1, Post r M1 → G E x M1 (pc + 3) lv (.int r :: st)) : G E x M pc lv (.ref (ad E 29) :: st) := k_I (fun hP hS hL => run_V X (w_X12_lacks E (xl x)  h) cw_X12_lacks m719 m720 m721 (⟨by decide, fun E f h => ⟨_, _, _, rfl, rfl, rfl⟩⟩ : OC 29 RX12) hr rfl hd hW hP hS hL) kk
theorem cw_X12_isPerson : CW yX12_isPerson cX12_isPerson 2 (some .boolean) 1 := ⟨m571, m499, Nat.le_of_ble_eq_true rfl, by decide +kernel⟩
def wp_X12_isPerson (Post : Int32 → Mem → Prop) (M : Mem) (v1 : Int32) : Prop :=
 wp_X12_in (fun r1 M2 =>
  zb r1 ∧ Post r1 M2) M (v1.toInt64) (0 : Int64) (((rd M 29 6) - 1).toInt64)
theorem w_X12_isPerson (E : Ek) (l : Launch) {v1 : Int32} {M : Mem} {Post : Int32 → Mem → Prop} (h : wp_X12_isPerson Post M v1) : ctI E l yX12_isPerson cX12_isPerson 2 (some .boolean) 2 [.ref (ad E 29), .int v1] M Post := by
  refine ct_of (by decide) (Nat.le_of_ble_eq_true rfl) (fun x X hQ => ?_)
  change G E x M 0 [(0, .ref (ad E 29)), (1, .int v1)] []
  refine g_iload_n X dX12_isPerson_0 rfl 1 rfl ?_
  refine g_i2l X dX12_isPerson_1 ?_
  refine g_lconst (v := 0) X dX12_isPerson_2 (by decide) ?_
  refine g_aload_n X dX12_isPerson_3 rfl 0 rfl ?_
  refine fg_X12_159 X dX12_isPerson_4 ?_
  refine g_iconst (v := 1) X dX12_isPerson_7 (by decide) ?_
  refine g_isub X dX12_isPerson_8 ?_
  refine g_i2l X dX12_isPerson_9 ?_
  refine cl_X12_103 X (by decide) (Nat.le_of_ble_eq_true rfl) dX12_isPerson_10 h (fun r1 M2 h => ?_)
  exact g_zret X hQ dX12_isPerson_13 h
theorem cl_X12_215 {E : Ek} {x : MC} {cc : ByteArray} {nL hm pc : Nat} {M : Mem} {lv : List (Nat × Value)} {st : List Value} (X : Cx E x cc nL RX12 hm) {v1 : Int32} {Post : Int32 → Mem → Prop} (hr : 2 < hm) (hW : (st.map fun v => v.category).sum ≤ 8) (hd : decode cc pc = .ok (.invokevirtual 215, 3)) (h : wp_X12_isPerson Post M v1) (kk : ∀ r M1, Post r M1 → G E x M1 (pc + 3) lv (.int r :: st)) : G E x M pc lv (.int v1 :: .ref (ad E 29) :: st) := k_I (fun hP hS hL => run_V X (w_X12_isPerson E (xl x)  h) cw_X12_isPerson m627 m628 m629 (⟨by decide, fun E f h => ⟨_, _, _, rfl, rfl, rfl⟩⟩ : OC 29 RX12) hr rfl hd hW hP hS hL) kk
theorem cw_X12_isDoor : CW yX12_isDoor cX12_isDoor 2 (some .boolean) 1 := ⟨m572, m499, Nat.le_of_ble_eq_true rfl, by decide +kernel⟩
def wp_X12_isDoor (Post : Int32 → Mem → Prop) (M : Mem) (v1 : Int32) : Prop :=
 wp_X12_in (fun r1 M2 =>
  zb r1 ∧ Post r1 M2) M (v1.toInt64) (0 : Int64) (((rd M 29 5) - 1).toInt64)
theorem w_X12_isDoor (E : Ek) (l : Launch) {v1 : Int32} {M : Mem} {Post : Int32 → Mem → Prop} (h : wp_X12_isDoor Post M v1) : ctI E l yX12_isDoor cX12_isDoor 2 (some .boolean) 2 [.ref (ad E 29), .int v1] M Post := by
  refine ct_of (by decide) (Nat.le_of_ble_eq_true rfl) (fun x X hQ => ?_)
  change G E x M 0 [(0, .ref (ad E 29)), (1, .int v1)] []
  refine g_iload_n X dX12_isDoor_0 rfl 1 rfl ?_
  refine g_i2l X dX12_isDoor_1 ?_
  refine g_lconst (v := 0) X dX12_isDoor_2 (by decide) ?_
  refine g_aload_n X dX12_isDoor_3 rfl 0 rfl ?_
  refine fg_X12_156 X dX12_isDoor_4 ?_
  refine g_iconst (v := 1) X dX12_isDoor_7 (by decide) ?_
  refine g_isub X dX12_isDoor_8 ?_
  refine g_i2l X dX12_isDoor_9 ?_
  refine cl_X12_103 X (by decide) (Nat.le_of_ble_eq_true rfl) dX12_isDoor_10 h (fun r1 M2 h => ?_)
  exact g_zret X hQ dX12_isDoor_13 h
theorem cl_X12_224 {E : Ek} {x : MC} {cc : ByteArray} {nL hm pc : Nat} {M : Mem} {lv : List (Nat × Value)} {st : List Value} (X : Cx E x cc nL RX12 hm) {v1 : Int32} {Post : Int32 → Mem → Prop} (hr : 2 < hm) (hW : (st.map fun v => v.category).sum ≤ 8) (hd : decode cc pc = .ok (.invokevirtual 224, 3)) (h : wp_X12_isDoor Post M v1) (kk : ∀ r M1, Post r M1 → G E x M1 (pc + 3) lv (.int r :: st)) : G E x M pc lv (.int v1 :: .ref (ad E 29) :: st) := k_I (fun hP hS hL => run_V X (w_X12_isDoor E (xl x)  h) cw_X12_isDoor m637 m638 m639 (⟨by decide, fun E f h => ⟨_, _, _, rfl, rfl, rfl⟩⟩ : OC 29 RX12) hr rfl hd hW hP hS hL) kk
theorem cw_X12_isDebt : CW yX12_isDebt cX12_isDebt 2 (some .boolean) 1 := ⟨m573, m499, Nat.le_of_ble_eq_true rfl, by decide +kernel⟩
def wp_X12_isDebt (Post : Int32 → Mem → Prop) (M : Mem) (v1 : Int32) : Prop :=
 wp_X12_in (fun r1 M2 =>
  zb r1 ∧ Post r1 M2) M (v1.toInt64) (0 : Int64) (((rd M 29 7) - 1).toInt64)
theorem w_X12_isDebt (E : Ek) (l : Launch) {v1 : Int32} {M : Mem} {Post : Int32 → Mem → Prop} (h : wp_X12_isDebt Post M v1) : ctI E l yX12_isDebt cX12_isDebt 2 (some .boolean) 2 [.ref (ad E 29), .int v1] M Post := by
  refine ct_of (by decide) (Nat.le_of_ble_eq_true rfl) (fun x X hQ => ?_)
  change G E x M 0 [(0, .ref (ad E 29)), (1, .int v1)] []
  refine g_iload_n X dX12_isDebt_0 rfl 1 rfl ?_
  refine g_i2l X dX12_isDebt_1 ?_
  refine g_lconst (v := 0) X dX12_isDebt_2 (by decide) ?_
  refine g_aload_n X dX12_isDebt_3 rfl 0 rfl ?_
  refine fg_X12_162 X dX12_isDebt_4 ?_
  refine g_iconst (v := 1) X dX12_isDebt_7 (by decide) ?_
  refine g_isub X dX12_isDebt_8 ?_
  refine g_i2l X dX12_isDebt_9 ?_
  refine cl_X12_103 X (by decide) (Nat.le_of_ble_eq_true rfl) dX12_isDebt_10 h (fun r1 M2 h => ?_)
  exact g_zret X hQ dX12_isDebt_13 h
theorem cl_X12_230 {E : Ek} {x : MC} {cc : ByteArray} {nL hm pc : Nat} {M : Mem} {lv : List (Nat × Value)} {st : List Value} (X : Cx E x cc nL RX12 hm) {v1 : Int32} {Post : Int32 → Mem → Prop} (hr : 2 < hm) (hW : (st.map fun v => v.category).sum ≤ 8) (hd : decode cc pc = .ok (.invokevirtual 230, 3)) (h : wp_X12_isDebt Post M v1) (kk : ∀ r M1, Post r M1 → G E x M1 (pc + 3) lv (.int r :: st)) : G E x M pc lv (.int v1 :: .ref (ad E 29) :: st) := k_I (fun hP hS hL => run_V X (w_X12_isDebt E (xl x)  h) cw_X12_isDebt m645 m646 m647 (⟨by decide, fun E f h => ⟨_, _, _, rfl, rfl, rfl⟩⟩ : OC 29 RX12) hr rfl hd hW hP hS hL) kk
theorem cw_X12_isRoom : CW yX12_isRoom cX12_isRoom 2 (some .boolean) 1 := ⟨m574, m499, Nat.le_of_ble_eq_true rfl, by decide +kernel⟩
def wp_X12_isRoom (Post : Int32 → Mem → Prop) (M : Mem) (v1 : Int32) : Prop :=
 wp_X12_in (fun r1 M2 =>
  zb r1 ∧ Post r1 M2) M (v1.toInt64) (0 : Int64) (((rd M 29 4) - 1).toInt64)
theorem w_X12_isRoom (E : Ek) (l : Launch) {v1 : Int32} {M : Mem} {Post : Int32 → Mem → Prop} (h : wp_X12_isRoom Post M v1) : ctI E l yX12_isRoom cX12_isRoom 2 (some .boolean) 2 [.ref (ad E 29), .int v1] M Post := by
  refine ct_of (by decide) (Nat.le_of_ble_eq_true rfl) (fun x X hQ => ?_)
  change G E x M 0 [(0, .ref (ad E 29)), (1, .int v1)] []
  refine g_iload_n X dX12_isRoom_0 rfl 1 rfl ?_
  refine g_i2l X dX12_isRoom_1 ?_
  refine g_lconst (v := 0) X dX12_isRoom_2 (by decide) ?_
  refine g_aload_n X dX12_isRoom_3 rfl 0 rfl ?_
  refine fg_X12_153 X dX12_isRoom_4 ?_
  refine g_iconst (v := 1) X dX12_isRoom_7 (by decide) ?_
  refine g_isub X dX12_isRoom_8 ?_
  refine g_i2l X dX12_isRoom_9 ?_
  refine cl_X12_103 X (by decide) (Nat.le_of_ble_eq_true rfl) dX12_isRoom_10 h (fun r1 M2 h => ?_)
  exact g_zret X hQ dX12_isRoom_13 h
theorem cl_X12_246 {E : Ek} {x : MC} {cc : ByteArray} {nL hm pc : Nat} {M : Mem} {lv : List (Nat × Value)} {st : List Value} (X : Cx E x cc nL RX12 hm) {v1 : Int32} {Post : Int32 → Mem → Prop} (hr : 2 < hm) (hW : (st.map fun v => v.category).sum ≤ 8) (hd : decode cc pc = .ok (.invokevirtual 246, 3)) (h : wp_X12_isRoom Post M v1) (kk : ∀ r M1, Post r M1 → G E x M1 (pc + 3) lv (.int r :: st)) : G E x M pc lv (.int v1 :: .ref (ad E 29) :: st) := k_I (fun hP hS hL => run_V X (w_X12_isRoom E (xl x)  h) cw_X12_isRoom m667 m668 m669 (⟨by decide, fun E f h => ⟨_, _, _, rfl, rfl, rfl⟩⟩ : OC 29 RX12) hr rfl hd hW hP hS hL) kk
theorem cw_X12_isRich : CW yX12_isRich cX12_isRich 2 (some .boolean) 1 := ⟨m575, m499, Nat.le_of_ble_eq_true rfl, by decide +kernel⟩
def wp_X12_isRich (Post : Int32 → Mem → Prop) (M : Mem) (v1 : Int32) : Prop :=
 vp_in v1 4 ∧
 ((rd M 34 v1.toNatClampNeg) = 1 →
  Post 1 M) ∧
 (¬ (rd M 34 v1.toNatClampNeg) = 1 →
  vp_in v1 4 ∧
  (¬ (rd M 34 v1.toNatClampNeg) = 4 →
   Post 0 M) ∧
  ((rd M 34 v1.toNatClampNeg) = 4 →
   Post 1 M))
theorem w_X12_isRich (E : Ek) (l : Launch) {v1 : Int32} {M : Mem} {Post : Int32 → Mem → Prop} (h : wp_X12_isRich Post M v1) : ctI E l yX12_isRich cX12_isRich 2 (some .boolean) 1 [.ref (ad E 29), .int v1] M Post := by
  refine ct_of (by decide) (Nat.le_of_ble_eq_true rfl) (fun x X hQ => ?_)
  change G E x M 0 [(0, .ref (ad E 29)), (1, .int v1)] []
  refine g_aload_n X dX12_isRich_0 rfl 0 rfl ?_
  refine fg_X12_22 X dX12_isRich_1 ?_
  refine g_iload_n X dX12_isRich_4 rfl 1 rfl ?_
  refine g_iald X ia_34 dX12_isRich_5 h (fun h => ?_)
  refine g_iconst (v := 1) X dX12_isRich_6 (by decide) ?_
  refine g_icmpeq (tgt := 20) X dX12_isRich_7 (by decide) h (fun h => ?_) (fun h => ?_)
  · refine g_iconst (v := 1) X dX12_isRich_20 (by decide) ?_
    refine g_goto (tgt := 25) X dX12_isRich_21 (by decide) ?_
    exact g_zret X hQ dX12_isRich_25 ⟨Or.inr rfl, h⟩
  · refine g_aload_n X dX12_isRich_10 rfl 0 rfl ?_
    refine fg_X12_22 X dX12_isRich_11 ?_
    refine g_iload_n X dX12_isRich_14 rfl 1 rfl ?_
    refine g_iald X ia_34 dX12_isRich_15 h (fun h => ?_)
    refine g_iconst (v := 4) X dX12_isRich_16 (by decide) ?_
    refine g_icmpne (tgt := 24) X dX12_isRich_17 (by decide) h (fun h => ?_) (fun h => ?_)
    · refine g_iconst (v := 0) X dX12_isRich_24 (by decide) ?_
      exact g_zret X hQ dX12_isRich_25 ⟨Or.inl rfl, h⟩
    · refine g_iconst (v := 1) X dX12_isRich_20 (by decide) ?_
      refine g_goto (tgt := 25) X dX12_isRich_21 (by decide) ?_
      exact g_zret X hQ dX12_isRich_25 ⟨Or.inr rfl, h⟩
theorem cl_X12_181 {E : Ek} {x : MC} {cc : ByteArray} {nL hm pc : Nat} {M : Mem} {lv : List (Nat × Value)} {st : List Value} (X : Cx E x cc nL RX12 hm) {v1 : Int32} {Post : Int32 → Mem → Prop} (hr : 1 < hm) (hW : (st.map fun v => v.category).sum ≤ 8) (hd : decode cc pc = .ok (.invokevirtual 181, 3)) (h : wp_X12_isRich Post M v1) (kk : ∀ r M1, Post r M1 → G E x M1 (pc + 3) lv (.int r :: st)) : G E x M pc lv (.int v1 :: .ref (ad E 29) :: st) := k_I (fun hP hS hL => run_V X (w_X12_isRich E (xl x)  h) cw_X12_isRich m583 m584 m585 (⟨by decide, fun E f h => ⟨_, _, _, rfl, rfl, rfl⟩⟩ : OC 29 RX12) hr rfl hd hW hP hS hL) kk
theorem cw_X12_costs : CW yX12_costs cX12_costs 2 (some .int) 1 := ⟨m576, m499, Nat.le_of_ble_eq_true rfl, by decide +kernel⟩
def wp_X12_costs (Post : Int32 → Mem → Prop) (M : Mem) (v1 : Int32) : Prop :=
 vp_in v1 4 ∧
 vp_in v1 4 ∧
 vp_in (rd M 38 v1.toNatClampNeg) 4 ∧
 (¬ (rd M 34 (rd M 38 v1.toNatClampNeg).toNatClampNeg) = 1 →
  Post ((rd M 41 v1.toNatClampNeg) + 0) M) ∧
 ((rd M 34 (rd M 38 v1.toNatClampNeg).toNatClampNeg) = 1 →
  Post ((rd M 41 v1.toNatClampNeg) + 1) M)
theorem w_X12_costs (E : Ek) (l : Launch) {v1 : Int32} {M : Mem} {Post : Int32 → Mem → Prop} (h : wp_X12_costs Post M v1) : ctI E l yX12_costs cX12_costs 2 (some .int) 1 [.ref (ad E 29), .int v1] M Post := by
  refine ct_of (by decide) (Nat.le_of_ble_eq_true rfl) (fun x X hQ => ?_)
  change G E x M 0 [(0, .ref (ad E 29)), (1, .int v1)] []
  refine g_aload_n X dX12_costs_0 rfl 0 rfl ?_
  refine fg_X12_43 X dX12_costs_1 ?_
  refine g_iload_n X dX12_costs_4 rfl 1 rfl ?_
  refine g_iald X ia_41 dX12_costs_5 h (fun h => ?_)
  refine g_aload_n X dX12_costs_6 rfl 0 rfl ?_
  refine fg_X12_22 X dX12_costs_7 ?_
  refine g_aload_n X dX12_costs_10 rfl 0 rfl ?_
  refine fg_X12_34 X dX12_costs_11 ?_
  refine g_iload_n X dX12_costs_14 rfl 1 rfl ?_
  refine g_iald X ia_38 dX12_costs_15 h (fun h => ?_)
  refine g_iald X ia_34 dX12_costs_16 h (fun h => ?_)
  refine g_iconst (v := 1) X dX12_costs_17 (by decide) ?_
  refine g_icmpne (tgt := 25) X dX12_costs_18 (by decide) h (fun h => ?_) (fun h => ?_)
  · refine g_iconst (v := 0) X dX12_costs_25 (by decide) ?_
    refine g_iadd X dX12_costs_26 ?_
    exact g_iret X hQ dX12_costs_27 h
  · refine g_iconst (v := 1) X dX12_costs_21 (by decide) ?_
    refine g_goto (tgt := 26) X dX12_costs_22 (by decide) ?_
    refine g_iadd X dX12_costs_26 ?_
    exact g_iret X hQ dX12_costs_27 h
theorem cl_X12_184 {E : Ek} {x : MC} {cc : ByteArray} {nL hm pc : Nat} {M : Mem} {lv : List (Nat × Value)} {st : List Value} (X : Cx E x cc nL RX12 hm) {v1 : Int32} {Post : Int32 → Mem → Prop} (hr : 1 < hm) (hW : (st.map fun v => v.category).sum ≤ 8) (hd : decode cc pc = .ok (.invokevirtual 184, 3)) (h : wp_X12_costs Post M v1) (kk : ∀ r M1, Post r M1 → G E x M1 (pc + 3) lv (.int r :: st)) : G E x M pc lv (.int v1 :: .ref (ad E 29) :: st) := k_I (fun hP hS hL => run_V X (w_X12_costs E (xl x)  h) cw_X12_costs m587 m588 m589 (⟨by decide, fun E f h => ⟨_, _, _, rfl, rfl, rfl⟩⟩ : OC 29 RX12) hr rfl hd hW hP hS hL) kk
theorem cw_X12_begin : CW yX12_begin cX12_begin 1 none 0 := ⟨m582, m499, Nat.le_of_ble_eq_true rfl, by decide +kernel⟩
def wp_X12_begin (Post : Mem → Prop) (M : Mem) : Prop :=
 wp_X12_copy (fun M2 =>
  wp_X12_copy (fun M4 =>
   wp_X12_copy (fun M6 =>
    Post M6) M4 42 4 45 4) M2 36 4 44 4) M 35 4 43 4
theorem w_X12_begin (E : Ek) (l : Launch) {M : Mem} {Post : Mem → Prop} (h : wp_X12_begin Post M ) : ctV E l yX12_begin cX12_begin 1 none 2 [.ref (ad E 29)] M Post := by
  refine ct_of (by decide) (Nat.le_of_ble_eq_true rfl) (fun x X hQ => ?_)
  change G E x M 0 [(0, .ref (ad E 29))] []
  refine g_aload_n X dX12_begin_0 rfl 0 rfl ?_
  refine fg_X12_25 X dX12_begin_1 ?_
  refine g_aload_n X dX12_begin_4 rfl 0 rfl ?_
  refine fg_X12_49 X dX12_begin_5 ?_
  refine cl_X12_177 X ia_35 ia_43 (by decide) (Nat.le_of_ble_eq_true rfl) dX12_begin_8 h (fun M2 h => ?_)
  refine g_aload_n X dX12_begin_11 rfl 0 rfl ?_
  refine fg_X12_28 X dX12_begin_12 ?_
  refine g_aload_n X dX12_begin_15 rfl 0 rfl ?_
  refine fg_X12_52 X dX12_begin_16 ?_
  refine cl_X12_177 X ia_36 ia_44 (by decide) (Nat.le_of_ble_eq_true rfl) dX12_begin_19 h (fun M4 h => ?_)
  refine g_aload_n X dX12_begin_22 rfl 0 rfl ?_
  refine fg_X12_46 X dX12_begin_23 ?_
  refine g_aload_n X dX12_begin_26 rfl 0 rfl ?_
  refine fg_X12_55 X dX12_begin_27 ?_
  refine cl_X12_177 X ia_42 ia_45 (by decide) (Nat.le_of_ble_eq_true rfl) dX12_begin_30 h (fun M6 h => ?_)
  exact g_vret X hQ dX12_begin_33 h
theorem cl_X12_191 {E : Ek} {x : MC} {cc : ByteArray} {nL hm pc : Nat} {M : Mem} {lv : List (Nat × Value)} {st : List Value} (X : Cx E x cc nL RX12 hm) {Post : Mem → Prop} (hr : 2 < hm) (hW : (st.map fun v => v.category).sum ≤ 8) (hd : decode cc pc = .ok (.invokevirtual 191, 3)) (h : wp_X12_begin Post M ) (kk : ∀ M1, Post M1 → G E x M1 (pc + 3) lv st) : G E x M pc lv (.ref (ad E 29) :: st) := k_V (fun hP hS hL => run_V X (w_X12_begin E (xl x)  h) cw_X12_begin m597 m598 m599 (⟨by decide, fun E f h => ⟨_, _, _, rfl, rfl, rfl⟩⟩ : OC 29 RX12) hr rfl hd hW hP hS hL) kk
theorem cw_X12_through : CW yX12_through cX12_through 6 (some .int) 3 := ⟨m586, m499, Nat.le_of_ble_eq_true rfl, by decide +kernel⟩
def wp_X12_through_b89 (Post : Int32 → Mem → Prop) (v1 : Int32) (v2 : Int32) (v3 : Int32) (M : Mem) (v4 : Int32) (s0 : Int32) : Prop :=
 (v4 = 0 →
  Post (-1) M) ∧
 (¬ v4 = 0 →
  Post s0 M)
def wp_X12_through_b48 (Post : Int32 → Mem → Prop) (v1 : Int32) (v2 : Int32) (v3 : Int32) (M : Mem) (s0 : Int32) : Prop :=
 vp_in v2 6 ∧
 (¬ (rd M 31 v2.toNatClampNeg) = v3 →
  vp_in v2 6 ∧
  (¬ (rd M 32 v2.toNatClampNeg) = v3 →
   wp_X12_through_b89 Post v1 v2 v3 M s0 (-1)) ∧
  ((rd M 32 v2.toNatClampNeg) = v3 →
   vp_in v2 6 ∧
   wp_X12_through_b89 Post v1 v2 v3 M s0 (rd M 31 v2.toNatClampNeg))) ∧
 ((rd M 31 v2.toNatClampNeg) = v3 →
  vp_in v2 6 ∧
  wp_X12_through_b89 Post v1 v2 v3 M s0 (rd M 32 v2.toNatClampNeg))
def wp_X12_through_b47 (Post : Int32 → Mem → Prop) (v1 : Int32) (v2 : Int32) (v3 : Int32) (M : Mem) : Prop :=
 wp_X12_through_b48 Post v1 v2 v3 M 0
def wp_X12_through_b43 (Post : Int32 → Mem → Prop) (v1 : Int32) (v2 : Int32) (v3 : Int32) (M : Mem) : Prop :=
 wp_X12_through_b48 Post v1 v2 v3 M 1
def wp_X12_through (Post : Int32 → Mem → Prop) (M : Mem) (v1 : Int32) (v2 : Int32) (v3 : Int32) : Prop :=
 wp_X12_isRich (fun r1 M2 =>
  (¬ r1 = 0 →
   wp_X12_through_b47 Post v1 v2 v3 M2) ∧
  (r1 = 0 →
   vp_in v2 6 ∧
   ((rd M2 33 v2.toNatClampNeg) = (-1) →
    wp_X12_through_b43 Post v1 v2 v3 M2) ∧
   (¬ (rd M2 33 v2.toNatClampNeg) = (-1) →
    vp_in v1 4 ∧
    ((rd M2 34 v1.toNatClampNeg) = 2 →
     wp_X12_through_b43 Post v1 v2 v3 M2) ∧
    (¬ (rd M2 34 v1.toNatClampNeg) = 2 →
     vp_in v2 6 ∧
     vp_in (rd M2 33 v2.toNatClampNeg) 2 ∧
     (¬ (rd M2 37 (rd M2 33 v2.toNatClampNeg).toNatClampNeg) = v1 →
      wp_X12_through_b47 Post v1 v2 v3 M2) ∧
     ((rd M2 37 (rd M2 33 v2.toNatClampNeg).toNatClampNeg) = v1 →
      wp_X12_through_b43 Post v1 v2 v3 M2))))) M v1
theorem k_X12_through_b89 {E : Ek} {x : MC} (X : Cx E x cX12_through 6 RX12 2) {Post : Int32 → Mem → Prop} (hQ : QI E x Post (some .int)) {v1 : Int32} {v2 : Int32} {v3 : Int32} {M : Mem} {v4 : Int32} {s0 : Int32} (h : wp_X12_through_b89 Post v1 v2 v3 M v4 s0) : G E x M 89 [(4, .int v4)] [.int s0] := by
  refine g_istore (lv' := [(4, .int v4), (5, .int s0)]) X dX12_through_89 (Nat.le_of_ble_eq_true rfl) rfl rfl ?_
  refine g_iload X dX12_through_91 0 rfl ?_
  refine g_ifeq (tgt := 101) X dX12_through_93 (by decide) h (fun h => ?_) (fun h => ?_)
  · refine g_iconst (v := (-1)) X dX12_through_101 (by decide) ?_
    exact g_iret X hQ dX12_through_102 h
  · refine g_iload X dX12_through_96 1 rfl ?_
    refine g_goto (tgt := 102) X dX12_through_98 (by decide) ?_
    exact g_iret X hQ dX12_through_102 h
theorem k_X12_through_b48 {E : Ek} {x : MC} (X : Cx E x cX12_through 6 RX12 2) {Post : Int32 → Mem → Prop} (hQ : QI E x Post (some .int)) {v1 : Int32} {v2 : Int32} {v3 : Int32} {M : Mem} {s0 : Int32} (h : wp_X12_through_b48 Post v1 v2 v3 M s0) : G E x M 48 [(0, .ref (ad E 29)), (2, .int v2), (3, .int v3)] [.int s0] := by
  refine g_istore (lv' := [(0, .ref (ad E 29)), (2, .int v2), (3, .int v3), (4, .int s0)]) X dX12_through_48 (Nat.le_of_ble_eq_true rfl) rfl rfl ?_
  refine g_aload_n X dX12_through_50 rfl 0 rfl ?_
  refine fg_X12_13 X dX12_through_51 ?_
  refine g_iload_n X dX12_through_54 rfl 1 rfl ?_
  refine g_iald X ia_31 dX12_through_55 h (fun h => ?_)
  refine g_iload_n X dX12_through_56 rfl 2 rfl ?_
  refine g_icmpne (tgt := 69) X dX12_through_57 (by decide) h (fun h => ?_) (fun h => ?_)
  · refine g_aload_n X dX12_through_69 rfl 0 rfl ?_
    refine fg_X12_16 X dX12_through_70 ?_
    refine g_iload_n X dX12_through_73 rfl 1 rfl ?_
    refine g_iald X ia_32 dX12_through_74 h (fun h => ?_)
    refine g_iload_n X dX12_through_75 rfl 2 rfl ?_
    refine g_icmpne (tgt := 88) X dX12_through_76 (by decide) h (fun h => ?_) (fun h => ?_)
    · refine g_iconst (v := (-1)) X dX12_through_88 (by decide) ?_
      exact g_sub [3] rfl (k_X12_through_b89 X hQ  h)
    · refine g_aload_n X dX12_through_79 rfl 0 rfl ?_
      refine fg_X12_13 X dX12_through_80 ?_
      refine g_iload_n X dX12_through_83 rfl 1 rfl ?_
      refine g_iald X ia_31 dX12_through_84 h (fun h => ?_)
      refine g_goto (tgt := 89) X dX12_through_85 (by decide) ?_
      exact g_sub [3] rfl (k_X12_through_b89 X hQ  h)
  · refine g_aload_n X dX12_through_60 rfl 0 rfl ?_
    refine fg_X12_16 X dX12_through_61 ?_
    refine g_iload_n X dX12_through_64 rfl 1 rfl ?_
    refine g_iald X ia_32 dX12_through_65 h (fun h => ?_)
    refine g_goto (tgt := 89) X dX12_through_66 (by decide) ?_
    exact g_sub [3] rfl (k_X12_through_b89 X hQ  h)
theorem k_X12_through_b47 {E : Ek} {x : MC} (X : Cx E x cX12_through 6 RX12 2) {Post : Int32 → Mem → Prop} (hQ : QI E x Post (some .int)) {v1 : Int32} {v2 : Int32} {v3 : Int32} {M : Mem} (h : wp_X12_through_b47 Post v1 v2 v3 M ) : G E x M 47 [(0, .ref (ad E 29)), (2, .int v2), (3, .int v3)] [] := by
  refine g_iconst (v := 0) X dX12_through_47 (by decide) ?_
  exact (k_X12_through_b48 X hQ  h)
theorem k_X12_through_b43 {E : Ek} {x : MC} (X : Cx E x cX12_through 6 RX12 2) {Post : Int32 → Mem → Prop} (hQ : QI E x Post (some .int)) {v1 : Int32} {v2 : Int32} {v3 : Int32} {M : Mem} (h : wp_X12_through_b43 Post v1 v2 v3 M ) : G E x M 43 [(0, .ref (ad E 29)), (2, .int v2), (3, .int v3)] [] := by
  refine g_iconst (v := 1) X dX12_through_43 (by decide) ?_
  refine g_goto (tgt := 48) X dX12_through_44 (by decide) ?_
  exact (k_X12_through_b48 X hQ  h)
theorem w_X12_through (E : Ek) (l : Launch) {v1 : Int32} {v2 : Int32} {v3 : Int32} {M : Mem} {Post : Int32 → Mem → Prop} (h : wp_X12_through Post M v1 v2 v3) : ctI E l yX12_through cX12_through 6 (some .int) 2 [.ref (ad E 29), .int v1, .int v2, .int v3] M Post := by
  refine ct_of (by decide) (Nat.le_of_ble_eq_true rfl) (fun x X hQ => ?_)
  change G E x M 0 [(0, .ref (ad E 29)), (1, .int v1), (2, .int v2), (3, .int v3)] []
  refine g_aload_n X dX12_through_0 rfl 0 rfl ?_
  refine g_iload_n X dX12_through_1 rfl 1 rfl ?_
  refine cl_X12_181 X (by decide) (Nat.le_of_ble_eq_true rfl) dX12_through_2 h (fun r1 M2 h => ?_)
  refine g_ifne (tgt := 47) X dX12_through_5 (by decide) h (fun h => ?_) (fun h => ?_)
  · exact g_sub [0, 2, 3] rfl (k_X12_through_b47 X hQ  h)
  · refine g_aload_n X dX12_through_8 rfl 0 rfl ?_
    refine fg_X12_19 X dX12_through_9 ?_
    refine g_iload_n X dX12_through_12 rfl 2 rfl ?_
    refine g_iald X ia_33 dX12_through_13 h (fun h => ?_)
    refine g_iconst (v := (-1)) X dX12_through_14 (by decide) ?_
    refine g_icmpeq (tgt := 43) X dX12_through_15 (by decide) h (fun h => ?_) (fun h => ?_)
    · exact g_sub [0, 2, 3] rfl (k_X12_through_b43 X hQ  h)
    · refine g_aload_n X dX12_through_18 rfl 0 rfl ?_
      refine fg_X12_22 X dX12_through_19 ?_
      refine g_iload_n X dX12_through_22 rfl 1 rfl ?_
      refine g_iald X ia_34 dX12_through_23 h (fun h => ?_)
      refine g_iconst (v := 2) X dX12_through_24 (by decide) ?_
      refine g_icmpeq (tgt := 43) X dX12_through_25 (by decide) h (fun h => ?_) (fun h => ?_)
      · exact g_sub [0, 2, 3] rfl (k_X12_through_b43 X hQ  h)
      · refine g_aload_n X dX12_through_28 rfl 0 rfl ?_
        refine fg_X12_31 X dX12_through_29 ?_
        refine g_aload_n X dX12_through_32 rfl 0 rfl ?_
        refine fg_X12_19 X dX12_through_33 ?_
        refine g_iload_n X dX12_through_36 rfl 2 rfl ?_
        refine g_iald X ia_33 dX12_through_37 h (fun h => ?_)
        refine g_iald X ia_37 dX12_through_38 h (fun h => ?_)
        refine g_iload_n X dX12_through_39 rfl 1 rfl ?_
        refine g_icmpne (tgt := 47) X dX12_through_40 (by decide) h (fun h => ?_) (fun h => ?_)
        · exact g_sub [0, 2, 3] rfl (k_X12_through_b47 X hQ  h)
        · exact g_sub [0, 2, 3] rfl (k_X12_through_b43 X hQ  h)
theorem cl_X12_187 {E : Ek} {x : MC} {cc : ByteArray} {nL hm pc : Nat} {M : Mem} {lv : List (Nat × Value)} {st : List Value} (X : Cx E x cc nL RX12 hm) {v1 : Int32} {v2 : Int32} {v3 : Int32} {Post : Int32 → Mem → Prop} (hr : 2 < hm) (hW : (st.map fun v => v.category).sum ≤ 8) (hd : decode cc pc = .ok (.invokevirtual 187, 3)) (h : wp_X12_through Post M v1 v2 v3) (kk : ∀ r M1, Post r M1 → G E x M1 (pc + 3) lv (.int r :: st)) : G E x M pc lv (.int v3 :: .int v2 :: .int v1 :: .ref (ad E 29) :: st) := k_I (fun hP hS hL => run_V X (w_X12_through E (xl x)  h) cw_X12_through m593 m594 m595 (⟨by decide, fun E f h => ⟨_, _, _, rfl, rfl, rfl⟩⟩ : OC 29 RX12) hr rfl hd hW hP hS hL) kk
theorem cw_X12_mayThen : CW yX12_mayThen cX12_mayThen 4 (some .boolean) 1 := ⟨m590, m499, Nat.le_of_ble_eq_true rfl, by decide +kernel⟩
def wp_X12_mayThen_b65 (Post : Int32 → Mem → Prop) (v1 : Int32) (M : Mem) (v2 : Int32) (s0 : Int32) : Prop :=
 vp_in v1 4 ∧
 (¬ (rd M 45 v1.toNatClampNeg) = 0 →
  Post 0 M) ∧
 ((rd M 45 v1.toNatClampNeg) = 0 →
  vp_in v2 4 ∧
  wp_X12_costs (fun r4 M5 =>
   ((rd M 43 v2.toNatClampNeg) < r4 →
    Post 0 M5) ∧
   (¬ (rd M 43 v2.toNatClampNeg) < r4 →
    (s0 = 0 →
     Post 0 M5) ∧
    (¬ s0 = 0 →
     Post 1 M5))) M v1)
def wp_X12_mayThen_b64 (Post : Int32 → Mem → Prop) (v1 : Int32) (M : Mem) (v2 : Int32) : Prop :=
 wp_X12_mayThen_b65 Post v1 M v2 0
def wp_X12_mayThen_b60 (Post : Int32 → Mem → Prop) (v1 : Int32) (M : Mem) (v2 : Int32) : Prop :=
 wp_X12_mayThen_b65 Post v1 M v2 1
def wp_X12_mayThen (Post : Int32 → Mem → Prop) (M : Mem) (v1 : Int32) : Prop :=
 vp_in v1 4 ∧
 ∀ x2_1 : Int32, x2_1 = rd M 38 v1.toNatClampNeg →
 wp_X12_isRich (fun r2 M3 =>
  (¬ r2 = 0 →
   wp_X12_mayThen_b60 Post v1 M3 x2_1) ∧
  (r2 = 0 →
   vp_in x2_1 4 ∧
   vp_in v1 4 ∧
   (¬ (rd M3 44 x2_1.toNatClampNeg) = (rd M3 40 v1.toNatClampNeg) →
    wp_X12_mayThen_b64 Post v1 M3 x2_1) ∧
   ((rd M3 44 x2_1.toNatClampNeg) = (rd M3 40 v1.toNatClampNeg) →
    vp_in x2_1 4 ∧
    ((rd M3 34 x2_1.toNatClampNeg) = 3 →
     wp_X12_mayThen_b60 Post v1 M3 x2_1) ∧
    (¬ (rd M3 34 x2_1.toNatClampNeg) = 3 →
     vp_in v1 4 ∧
     vp_in (rd M3 39 v1.toNatClampNeg) 4 ∧
     vp_in v1 4 ∧
     (¬ (rd M3 44 (rd M3 39 v1.toNatClampNeg).toNatClampNeg) = (rd M3 40 v1.toNatClampNeg) →
      wp_X12_mayThen_b64 Post v1 M3 x2_1) ∧
     ((rd M3 44 (rd M3 39 v1.toNatClampNeg).toNatClampNeg) = (rd M3 40 v1.toNatClampNeg) →
      wp_X12_mayThen_b60 Post v1 M3 x2_1))))) M x2_1
theorem k_X12_mayThen_b65 {E : Ek} {x : MC} (X : Cx E x cX12_mayThen 4 RX12 2) {Post : Int32 → Mem → Prop} (hQ : QI E x Post (some .boolean)) {v1 : Int32} {M : Mem} {v2 : Int32} {s0 : Int32} (h : wp_X12_mayThen_b65 Post v1 M v2 s0) : G E x M 65 [(0, .ref (ad E 29)), (1, .int v1), (2, .int v2)] [.int s0] := by
  refine g_istore_n (lv' := [(0, .ref (ad E 29)), (1, .int v1), (2, .int v2), (3, .int s0)]) X dX12_mayThen_65 rfl (Nat.le_of_ble_eq_true rfl) rfl rfl ?_
  refine g_aload_n X dX12_mayThen_66 rfl 0 rfl ?_
  refine fg_X12_55 X dX12_mayThen_67 ?_
  refine g_iload_n X dX12_mayThen_70 rfl 1 rfl ?_
  refine g_iald X ia_45 dX12_mayThen_71 h (fun h => ?_)
  refine g_ifne (tgt := 97) X dX12_mayThen_72 (by decide) h (fun h => ?_) (fun h => ?_)
  · refine g_iconst (v := 0) X dX12_mayThen_97 (by decide) ?_
    exact g_zret X hQ dX12_mayThen_98 ⟨Or.inl rfl, h⟩
  · refine g_aload_n X dX12_mayThen_75 rfl 0 rfl ?_
    refine fg_X12_49 X dX12_mayThen_76 ?_
    refine g_iload_n X dX12_mayThen_79 rfl 2 rfl ?_
    refine g_iald X ia_43 dX12_mayThen_80 h (fun h => ?_)
    refine g_aload_n X dX12_mayThen_81 rfl 0 rfl ?_
    refine g_iload_n X dX12_mayThen_82 rfl 1 rfl ?_
    refine cl_X12_184 X (by decide) (Nat.le_of_ble_eq_true rfl) dX12_mayThen_83 h (fun r4 M5 h => ?_)
    refine g_icmplt (tgt := 97) X dX12_mayThen_86 (by decide) h (fun h => ?_) (fun h => ?_)
    · refine g_iconst (v := 0) X dX12_mayThen_97 (by decide) ?_
      exact g_zret X hQ dX12_mayThen_98 ⟨Or.inl rfl, h⟩
    · refine g_iload_n X dX12_mayThen_89 rfl 3 rfl ?_
      refine g_ifeq (tgt := 97) X dX12_mayThen_90 (by decide) h (fun h => ?_) (fun h => ?_)
      · refine g_iconst (v := 0) X dX12_mayThen_97 (by decide) ?_
        exact g_zret X hQ dX12_mayThen_98 ⟨Or.inl rfl, h⟩
      · refine g_iconst (v := 1) X dX12_mayThen_93 (by decide) ?_
        refine g_goto (tgt := 98) X dX12_mayThen_94 (by decide) ?_
        exact g_zret X hQ dX12_mayThen_98 ⟨Or.inr rfl, h⟩
theorem k_X12_mayThen_b64 {E : Ek} {x : MC} (X : Cx E x cX12_mayThen 4 RX12 2) {Post : Int32 → Mem → Prop} (hQ : QI E x Post (some .boolean)) {v1 : Int32} {M : Mem} {v2 : Int32} (h : wp_X12_mayThen_b64 Post v1 M v2) : G E x M 64 [(0, .ref (ad E 29)), (1, .int v1), (2, .int v2)] [] := by
  refine g_iconst (v := 0) X dX12_mayThen_64 (by decide) ?_
  exact (k_X12_mayThen_b65 X hQ  h)
theorem k_X12_mayThen_b60 {E : Ek} {x : MC} (X : Cx E x cX12_mayThen 4 RX12 2) {Post : Int32 → Mem → Prop} (hQ : QI E x Post (some .boolean)) {v1 : Int32} {M : Mem} {v2 : Int32} (h : wp_X12_mayThen_b60 Post v1 M v2) : G E x M 60 [(0, .ref (ad E 29)), (1, .int v1), (2, .int v2)] [] := by
  refine g_iconst (v := 1) X dX12_mayThen_60 (by decide) ?_
  refine g_goto (tgt := 65) X dX12_mayThen_61 (by decide) ?_
  exact (k_X12_mayThen_b65 X hQ  h)
theorem w_X12_mayThen (E : Ek) (l : Launch) {v1 : Int32} {M : Mem} {Post : Int32 → Mem → Prop} (h : wp_X12_mayThen Post M v1) : ctI E l yX12_mayThen cX12_mayThen 4 (some .boolean) 2 [.ref (ad E 29), .int v1] M Post := by
  refine ct_of (by decide) (Nat.le_of_ble_eq_true rfl) (fun x X hQ => ?_)
  change G E x M 0 [(0, .ref (ad E 29)), (1, .int v1)] []
  refine g_aload_n X dX12_mayThen_0 rfl 0 rfl ?_
  refine fg_X12_34 X dX12_mayThen_1 ?_
  refine g_iload_n X dX12_mayThen_4 rfl 1 rfl ?_
  refine g_iald X ia_38 dX12_mayThen_5 h (fun h => ?_)
  refine g_nm h (fun x2_1 h => ?_)
  refine g_istore_n (lv' := [(0, .ref (ad E 29)), (1, .int v1), (2, .int x2_1)]) X dX12_mayThen_6 rfl (Nat.le_of_ble_eq_true rfl) rfl rfl ?_
  refine g_aload_n X dX12_mayThen_7 rfl 0 rfl ?_
  refine g_iload_n X dX12_mayThen_8 rfl 2 rfl ?_
  refine cl_X12_181 X (by decide) (Nat.le_of_ble_eq_true rfl) dX12_mayThen_9 h (fun r2 M3 h => ?_)
  refine g_ifne (tgt := 60) X dX12_mayThen_12 (by decide) h (fun h => ?_) (fun h => ?_)
  · exact (k_X12_mayThen_b60 X hQ  h)
  · refine g_aload_n X dX12_mayThen_15 rfl 0 rfl ?_
    refine fg_X12_52 X dX12_mayThen_16 ?_
    refine g_iload_n X dX12_mayThen_19 rfl 2 rfl ?_
    refine g_iald X ia_44 dX12_mayThen_20 h (fun h => ?_)
    refine g_aload_n X dX12_mayThen_21 rfl 0 rfl ?_
    refine fg_X12_40 X dX12_mayThen_22 ?_
    refine g_iload_n X dX12_mayThen_25 rfl 1 rfl ?_
    refine g_iald X ia_40 dX12_mayThen_26 h (fun h => ?_)
    refine g_icmpne (tgt := 64) X dX12_mayThen_27 (by decide) h (fun h => ?_) (fun h => ?_)
    · exact (k_X12_mayThen_b64 X hQ  h)
    · refine g_aload_n X dX12_mayThen_30 rfl 0 rfl ?_
      refine fg_X12_22 X dX12_mayThen_31 ?_
      refine g_iload_n X dX12_mayThen_34 rfl 2 rfl ?_
      refine g_iald X ia_34 dX12_mayThen_35 h (fun h => ?_)
      refine g_iconst (v := 3) X dX12_mayThen_36 (by decide) ?_
      refine g_icmpeq (tgt := 60) X dX12_mayThen_37 (by decide) h (fun h => ?_) (fun h => ?_)
      · exact (k_X12_mayThen_b60 X hQ  h)
      · refine g_aload_n X dX12_mayThen_40 rfl 0 rfl ?_
        refine fg_X12_52 X dX12_mayThen_41 ?_
        refine g_aload_n X dX12_mayThen_44 rfl 0 rfl ?_
        refine fg_X12_37 X dX12_mayThen_45 ?_
        refine g_iload_n X dX12_mayThen_48 rfl 1 rfl ?_
        refine g_iald X ia_39 dX12_mayThen_49 h (fun h => ?_)
        refine g_iald X ia_44 dX12_mayThen_50 h (fun h => ?_)
        refine g_aload_n X dX12_mayThen_51 rfl 0 rfl ?_
        refine fg_X12_40 X dX12_mayThen_52 ?_
        refine g_iload_n X dX12_mayThen_55 rfl 1 rfl ?_
        refine g_iald X ia_40 dX12_mayThen_56 h (fun h => ?_)
        refine g_icmpne (tgt := 64) X dX12_mayThen_57 (by decide) h (fun h => ?_) (fun h => ?_)
        · exact (k_X12_mayThen_b64 X hQ  h)
        · exact (k_X12_mayThen_b60 X hQ  h)
theorem cl_X12_194 {E : Ek} {x : MC} {cc : ByteArray} {nL hm pc : Nat} {M : Mem} {lv : List (Nat × Value)} {st : List Value} (X : Cx E x cc nL RX12 hm) {v1 : Int32} {Post : Int32 → Mem → Prop} (hr : 2 < hm) (hW : (st.map fun v => v.category).sum ≤ 8) (hd : decode cc pc = .ok (.invokevirtual 194, 3)) (h : wp_X12_mayThen Post M v1) (kk : ∀ r M1, Post r M1 → G E x M1 (pc + 3) lv (.int r :: st)) : G E x M pc lv (.int v1 :: .ref (ad E 29) :: st) := k_I (fun hP hS hL => run_V X (w_X12_mayThen E (xl x)  h) cw_X12_mayThen m600 m601 m602 (⟨by decide, fun E f h => ⟨_, _, _, rfl, rfl, rfl⟩⟩ : OC 29 RX12) hr rfl hd hW hP hS hL) kk
theorem cw_X12_payThen : CW yX12_payThen cX12_payThen 3 none 1 := ⟨m591, m499, Nat.le_of_ble_eq_true rfl, by decide +kernel⟩
def wp_X12_payThen_b60 (Post : Mem → Prop) (v1 : Int32) (M : Mem) (s1 : Int32) (s2 : Int32) : Prop :=
 vp_in s1 4 ∧
 ∀ M5 : Mem, M5 = wr M 43 s1.toNatClampNeg s2 →
 vp_in v1 4 ∧
 ∀ M6 : Mem, M6 = wr M5 45 v1.toNatClampNeg 1 →
 Post M6
def wp_X12_payThen (Post : Mem → Prop) (M : Mem) (v1 : Int32) : Prop :=
 vp_in v1 4 ∧
 vp_in (rd M 38 v1.toNatClampNeg) 4 ∧
 wp_X12_costs (fun r1 M2 =>
  vp_in (rd M 38 v1.toNatClampNeg) 4 ∧
  ∀ M3 : Mem, M3 = wr M2 43 (rd M 38 v1.toNatClampNeg).toNatClampNeg ((rd M 43 (rd M 38 v1.toNatClampNeg).toNatClampNeg) - r1) →
  vp_in v1 4 ∧
  vp_in (rd M3 39 v1.toNatClampNeg) 4 ∧
  vp_in v1 4 ∧
  ∀ x2_4 : Int32, x2_4 = (rd M3 43 (rd M3 39 v1.toNatClampNeg).toNatClampNeg) + (rd M3 41 v1.toNatClampNeg) →
  vp_in v1 4 ∧
  (x2_4 ≤ 99 →
   wp_X12_payThen_b60 Post v1 M3 (rd M3 39 v1.toNatClampNeg) x2_4) ∧
  (¬ x2_4 ≤ 99 →
   wp_X12_payThen_b60 Post v1 M3 (rd M3 39 v1.toNatClampNeg) 99)) M v1
theorem k_X12_payThen_b60 {E : Ek} {x : MC} (X : Cx E x cX12_payThen 3 RX12 2) {Post : Mem → Prop} (hQ : QV E x Post none) {v1 : Int32} {M : Mem} {s1 : Int32} {s2 : Int32} (h : wp_X12_payThen_b60 Post v1 M s1 s2) : G E x M 60 [(0, .ref (ad E 29)), (1, .int v1)] [.int s2, .int s1, .ref (ad E 43)] := by
  refine g_iast X ia_43 dX12_payThen_60 h (fun M5 h => ?_)
  refine g_aload_n X dX12_payThen_61 rfl 0 rfl ?_
  refine fg_X12_55 X dX12_payThen_62 ?_
  refine g_iload_n X dX12_payThen_65 rfl 1 rfl ?_
  refine g_iconst (v := 1) X dX12_payThen_66 (by decide) ?_
  refine g_iast X ia_45 dX12_payThen_67 h (fun M6 h => ?_)
  exact g_vret X hQ dX12_payThen_68 h
theorem w_X12_payThen (E : Ek) (l : Launch) {v1 : Int32} {M : Mem} {Post : Mem → Prop} (h : wp_X12_payThen Post M v1) : ctV E l yX12_payThen cX12_payThen 3 none 2 [.ref (ad E 29), .int v1] M Post := by
  refine ct_of (by decide) (Nat.le_of_ble_eq_true rfl) (fun x X hQ => ?_)
  change G E x M 0 [(0, .ref (ad E 29)), (1, .int v1)] []
  refine g_aload_n X dX12_payThen_0 rfl 0 rfl ?_
  refine fg_X12_49 X dX12_payThen_1 ?_
  refine g_aload_n X dX12_payThen_4 rfl 0 rfl ?_
  refine fg_X12_34 X dX12_payThen_5 ?_
  refine g_iload_n X dX12_payThen_8 rfl 1 rfl ?_
  refine g_iald X ia_38 dX12_payThen_9 h (fun h => ?_)
  refine g_dup2 X dX12_payThen_10 rfl rfl ?_
  refine g_iald X ia_43 dX12_payThen_11 h (fun h => ?_)
  refine g_aload_n X dX12_payThen_12 rfl 0 rfl ?_
  refine g_iload_n X dX12_payThen_13 rfl 1 rfl ?_
  refine cl_X12_184 X (by decide) (Nat.le_of_ble_eq_true rfl) dX12_payThen_14 h (fun r1 M2 h => ?_)
  refine g_isub X dX12_payThen_17 ?_
  refine g_iast X ia_43 dX12_payThen_18 h (fun M3 h => ?_)
  refine g_aload_n X dX12_payThen_19 rfl 0 rfl ?_
  refine fg_X12_49 X dX12_payThen_20 ?_
  refine g_aload_n X dX12_payThen_23 rfl 0 rfl ?_
  refine fg_X12_37 X dX12_payThen_24 ?_
  refine g_iload_n X dX12_payThen_27 rfl 1 rfl ?_
  refine g_iald X ia_39 dX12_payThen_28 h (fun h => ?_)
  refine g_iald X ia_43 dX12_payThen_29 h (fun h => ?_)
  refine g_aload_n X dX12_payThen_30 rfl 0 rfl ?_
  refine fg_X12_43 X dX12_payThen_31 ?_
  refine g_iload_n X dX12_payThen_34 rfl 1 rfl ?_
  refine g_iald X ia_41 dX12_payThen_35 h (fun h => ?_)
  refine g_iadd X dX12_payThen_36 ?_
  refine g_nm h (fun x2_4 h => ?_)
  refine g_istore_n (lv' := [(0, .ref (ad E 29)), (1, .int v1), (2, .int x2_4)]) X dX12_payThen_37 rfl (Nat.le_of_ble_eq_true rfl) rfl rfl ?_
  refine g_aload_n X dX12_payThen_38 rfl 0 rfl ?_
  refine fg_X12_49 X dX12_payThen_39 ?_
  refine g_aload_n X dX12_payThen_42 rfl 0 rfl ?_
  refine fg_X12_37 X dX12_payThen_43 ?_
  refine g_iload_n X dX12_payThen_46 rfl 1 rfl ?_
  refine g_iald X ia_39 dX12_payThen_47 h (fun h => ?_)
  refine g_iload_n X dX12_payThen_48 rfl 2 rfl ?_
  refine g_bipush (v := 99) X dX12_payThen_49 (by decide) ?_
  refine g_icmple (tgt := 59) X dX12_payThen_51 (by decide) h (fun h => ?_) (fun h => ?_)
  · refine g_iload_n X dX12_payThen_59 rfl 2 rfl ?_
    exact g_sub [0, 1] rfl (k_X12_payThen_b60 X hQ  h)
  · refine g_bipush (v := 99) X dX12_payThen_54 (by decide) ?_
    refine g_goto (tgt := 60) X dX12_payThen_56 (by decide) ?_
    exact g_sub [0, 1] rfl (k_X12_payThen_b60 X hQ  h)
theorem cl_X12_236 {E : Ek} {x : MC} {cc : ByteArray} {nL hm pc : Nat} {M : Mem} {lv : List (Nat × Value)} {st : List Value} (X : Cx E x cc nL RX12 hm) {v1 : Int32} {Post : Mem → Prop} (hr : 2 < hm) (hW : (st.map fun v => v.category).sum ≤ 8) (hd : decode cc pc = .ok (.invokevirtual 236, 3)) (h : wp_X12_payThen Post M v1) (kk : ∀ M1, Post M1 → G E x M1 (pc + 3) lv st) : G E x M pc lv (.int v1 :: .ref (ad E 29) :: st) := k_V (fun hP hS hL => run_V X (w_X12_payThen E (xl x)  h) cw_X12_payThen m654 m655 m656 (⟨by decide, fun E f h => ⟨_, _, _, rfl, rfl, rfl⟩⟩ : OC 29 RX12) hr rfl hd hW hP hS hL) kk
theorem cw_X12_keysOf : CW yX12_keysOf cX12_keysOf 2 (some .int) 1 := ⟨m592, m499, Nat.le_of_ble_eq_true rfl, by decide +kernel⟩
def wp_X12_keysOf_b15 (Post : Int32 → Mem → Prop) (v1 : Int32) (M : Mem) (s0 : Int32) : Prop :=
 vp_in 1 2 ∧
 (¬ (rd M 37 (1 : Int32).toNatClampNeg) = v1 →
  Post (s0 + 0) M) ∧
 ((rd M 37 (1 : Int32).toNatClampNeg) = v1 →
  Post (s0 + 2) M)
def wp_X12_keysOf (Post : Int32 → Mem → Prop) (M : Mem) (v1 : Int32) : Prop :=
 vp_in 0 2 ∧
 (¬ (rd M 37 (0 : Int32).toNatClampNeg) = v1 →
  wp_X12_keysOf_b15 Post v1 M 0) ∧
 ((rd M 37 (0 : Int32).toNatClampNeg) = v1 →
  wp_X12_keysOf_b15 Post v1 M 1)
theorem k_X12_keysOf_b15 {E : Ek} {x : MC} (X : Cx E x cX12_keysOf 2 RX12 1) {Post : Int32 → Mem → Prop} (hQ : QI E x Post (some .int)) {v1 : Int32} {M : Mem} {s0 : Int32} (h : wp_X12_keysOf_b15 Post v1 M s0) : G E x M 15 [(0, .ref (ad E 29)), (1, .int v1)] [.int s0] := by
  refine g_aload_n X dX12_keysOf_15 rfl 0 rfl ?_
  refine fg_X12_31 X dX12_keysOf_16 ?_
  refine g_iconst (v := 1) X dX12_keysOf_19 (by decide) ?_
  refine g_iald X ia_37 dX12_keysOf_20 h (fun h => ?_)
  refine g_iload_n X dX12_keysOf_21 rfl 1 rfl ?_
  refine g_icmpne (tgt := 29) X dX12_keysOf_22 (by decide) h (fun h => ?_) (fun h => ?_)
  · refine g_iconst (v := 0) X dX12_keysOf_29 (by decide) ?_
    refine g_iadd X dX12_keysOf_30 ?_
    exact g_iret X hQ dX12_keysOf_31 h
  · refine g_iconst (v := 2) X dX12_keysOf_25 (by decide) ?_
    refine g_goto (tgt := 30) X dX12_keysOf_26 (by decide) ?_
    refine g_iadd X dX12_keysOf_30 ?_
    exact g_iret X hQ dX12_keysOf_31 h
theorem w_X12_keysOf (E : Ek) (l : Launch) {v1 : Int32} {M : Mem} {Post : Int32 → Mem → Prop} (h : wp_X12_keysOf Post M v1) : ctI E l yX12_keysOf cX12_keysOf 2 (some .int) 1 [.ref (ad E 29), .int v1] M Post := by
  refine ct_of (by decide) (Nat.le_of_ble_eq_true rfl) (fun x X hQ => ?_)
  change G E x M 0 [(0, .ref (ad E 29)), (1, .int v1)] []
  refine g_aload_n X dX12_keysOf_0 rfl 0 rfl ?_
  refine fg_X12_31 X dX12_keysOf_1 ?_
  refine g_iconst (v := 0) X dX12_keysOf_4 (by decide) ?_
  refine g_iald X ia_37 dX12_keysOf_5 h (fun h => ?_)
  refine g_iload_n X dX12_keysOf_6 rfl 1 rfl ?_
  refine g_icmpne (tgt := 14) X dX12_keysOf_7 (by decide) h (fun h => ?_) (fun h => ?_)
  · refine g_iconst (v := 0) X dX12_keysOf_14 (by decide) ?_
    exact (k_X12_keysOf_b15 X hQ  h)
  · refine g_iconst (v := 1) X dX12_keysOf_10 (by decide) ?_
    refine g_goto (tgt := 15) X dX12_keysOf_11 (by decide) ?_
    exact (k_X12_keysOf_b15 X hQ  h)
theorem cl_X12_197 {E : Ek} {x : MC} {cc : ByteArray} {nL hm pc : Nat} {M : Mem} {lv : List (Nat × Value)} {st : List Value} (X : Cx E x cc nL RX12 hm) {v1 : Int32} {Post : Int32 → Mem → Prop} (hr : 1 < hm) (hW : (st.map fun v => v.category).sum ≤ 8) (hd : decode cc pc = .ok (.invokevirtual 197, 3)) (h : wp_X12_keysOf Post M v1) (kk : ∀ r M1, Post r M1 → G E x M1 (pc + 3) lv (.int r :: st)) : G E x M pc lv (.int v1 :: .ref (ad E 29) :: st) := k_I (fun hP hS hL => run_V X (w_X12_keysOf E (xl x)  h) cw_X12_keysOf m611 m612 m613 (⟨by decide, fun E f h => ⟨_, _, _, rfl, rfl, rfl⟩⟩ : OC 29 RX12) hr rfl hd hW hP hS hL) kk
theorem cw_X12_doorsOf : CW yX12_doorsOf cX12_doorsOf 4 (some .int) 1 := ⟨m596, m499, Nat.le_of_ble_eq_true rfl, by decide +kernel⟩
def wp_X12_doorsOf_b4 (Post : Int32 → Mem → Prop) (v1 : Int32) (P4 : Mem → Int32 → Int32 → Prop) (M : Mem) (v2 : Int32) (v3 : Int32) : Prop :=
 ((rd M 29 5) ≤ v3 →
  Post v2 M) ∧
 (¬ (rd M 29 5) ≤ v3 →
  vp_in v1 4 ∧
  wp_X12_through (fun r1 M2 =>
   (r1 = (-1) →
    ∀ x2_3 : Int32, x2_3 = v2 ||| 0 →
    ∀ x3_4 : Int32, x3_4 = v3 + 1 →
    P4 M2 x2_3 x3_4) ∧
   (¬ r1 = (-1) →
    ∀ x2_5 : Int32, x2_5 = v2 ||| ((1 : Int32) <<< (v3 &&& 31)) →
    ∀ x3_6 : Int32, x3_6 = v3 + 1 →
    P4 M2 x2_5 x3_6)) M v1 v3 (rd M 36 v1.toNatClampNeg))
def wp_X12_doorsOf (Post : Int32 → Mem → Prop) (M : Mem) (v1 : Int32) : Prop :=
 ∀ (P4 : Mem → Int32 → Int32 → Prop) ,
  (∀ (M : Mem) (v2 : Int32) (v3 : Int32), wp_X12_doorsOf_b4 Post v1 P4 M v2 v3 → P4 M v2 v3) →
 P4 M 0 0
theorem k_X12_doorsOf_b4 {E : Ek} {x : MC} (X : Cx E x cX12_doorsOf 4 RX12 3) {Post : Int32 → Mem → Prop} (hQ : QI E x Post (some .int)) {v1 : Int32} {M : Mem} {v2 : Int32} {v3 : Int32} (h : wp_X12_doorsOf_b4 Post v1 (fun M v2 v3 => G E x M 4 [(0, .ref (ad E 29)), (1, .int v1), (2, .int v2), (3, .int v3)] []) M v2 v3) : G E x M 4 [(0, .ref (ad E 29)), (1, .int v1), (2, .int v2), (3, .int v3)] [] := by
  refine g_iload_n X dX12_doorsOf_4 rfl 3 rfl ?_
  refine g_aload_n X dX12_doorsOf_5 rfl 0 rfl ?_
  refine fg_X12_156 X dX12_doorsOf_6 ?_
  refine g_icmpge (tgt := 44) X dX12_doorsOf_9 (by decide) h (fun h => ?_) (fun h => ?_)
  · refine g_iload_n X dX12_doorsOf_44 rfl 2 rfl ?_
    exact g_iret X hQ dX12_doorsOf_45 h
  · refine g_iload_n X dX12_doorsOf_12 rfl 2 rfl ?_
    refine g_aload_n X dX12_doorsOf_13 rfl 0 rfl ?_
    refine g_iload_n X dX12_doorsOf_14 rfl 1 rfl ?_
    refine g_iload_n X dX12_doorsOf_15 rfl 3 rfl ?_
    refine g_aload_n X dX12_doorsOf_16 rfl 0 rfl ?_
    refine fg_X12_28 X dX12_doorsOf_17 ?_
    refine g_iload_n X dX12_doorsOf_20 rfl 1 rfl ?_
    refine g_iald X ia_36 dX12_doorsOf_21 h (fun h => ?_)
    refine cl_X12_187 X (by decide) (Nat.le_of_ble_eq_true rfl) dX12_doorsOf_22 h (fun r1 M2 h => ?_)
    refine g_iconst (v := (-1)) X dX12_doorsOf_25 (by decide) ?_
    refine g_icmpeq (tgt := 35) X dX12_doorsOf_26 (by decide) h (fun h => ?_) (fun h => ?_)
    · refine g_iconst (v := 0) X dX12_doorsOf_35 (by decide) ?_
      refine g_ior X dX12_doorsOf_36 ?_
      refine g_nm h (fun x2_3 h => ?_)
      refine g_istore_n (lv' := [(0, .ref (ad E 29)), (1, .int v1), (2, .int x2_3), (3, .int v3)]) X dX12_doorsOf_37 rfl (Nat.le_of_ble_eq_true rfl) rfl rfl ?_
      refine g_iinc (w := 1) X dX12_doorsOf_38 3 rfl (by decide) (Nat.le_of_ble_eq_true rfl) rfl (fun x3_4 => [(0, .ref (ad E 29)), (1, .int v1), (2, .int x2_3), (3, .int x3_4)]) (fun _ => rfl) h (fun x3_4 h => ?_)
      refine g_goto (tgt := 4) X dX12_doorsOf_41 (by decide) ?_
      exact h
    · refine g_iconst (v := 1) X dX12_doorsOf_29 (by decide) ?_
      refine g_iload_n X dX12_doorsOf_30 rfl 3 rfl ?_
      refine g_ishl X dX12_doorsOf_31 ?_
      refine g_goto (tgt := 36) X dX12_doorsOf_32 (by decide) ?_
      refine g_ior X dX12_doorsOf_36 ?_
      refine g_nm h (fun x2_5 h => ?_)
      refine g_istore_n (lv' := [(0, .ref (ad E 29)), (1, .int v1), (2, .int x2_5), (3, .int v3)]) X dX12_doorsOf_37 rfl (Nat.le_of_ble_eq_true rfl) rfl rfl ?_
      refine g_iinc (w := 1) X dX12_doorsOf_38 3 rfl (by decide) (Nat.le_of_ble_eq_true rfl) rfl (fun x3_6 => [(0, .ref (ad E 29)), (1, .int v1), (2, .int x2_5), (3, .int x3_6)]) (fun _ => rfl) h (fun x3_6 h => ?_)
      refine g_goto (tgt := 4) X dX12_doorsOf_41 (by decide) ?_
      exact h
theorem w_X12_doorsOf (E : Ek) (l : Launch) {v1 : Int32} {M : Mem} {Post : Int32 → Mem → Prop} (h : wp_X12_doorsOf Post M v1) : ctI E l yX12_doorsOf cX12_doorsOf 4 (some .int) 3 [.ref (ad E 29), .int v1] M Post := by
  refine ct_of (by decide) (Nat.le_of_ble_eq_true rfl) (fun x X hQ => ?_)
  have h := h (fun M v2 v3 => G E x M 4 [(0, .ref (ad E 29)), (1, .int v1), (2, .int v2), (3, .int v3)] []) (fun M v2 v3 h => k_X12_doorsOf_b4 X hQ  h)
  change G E x M 0 [(0, .ref (ad E 29)), (1, .int v1)] []
  refine g_iconst (v := 0) X dX12_doorsOf_0 (by decide) ?_
  refine g_istore_n (lv' := [(0, .ref (ad E 29)), (1, .int v1), (2, .int 0)]) X dX12_doorsOf_1 rfl (Nat.le_of_ble_eq_true rfl) rfl rfl ?_
  refine g_iconst (v := 0) X dX12_doorsOf_2 (by decide) ?_
  refine g_istore_n (lv' := [(0, .ref (ad E 29)), (1, .int v1), (2, .int 0), (3, .int 0)]) X dX12_doorsOf_3 rfl (Nat.le_of_ble_eq_true rfl) rfl rfl ?_
  exact h
theorem cl_X12_200 {E : Ek} {x : MC} {cc : ByteArray} {nL hm pc : Nat} {M : Mem} {lv : List (Nat × Value)} {st : List Value} (X : Cx E x cc nL RX12 hm) {v1 : Int32} {Post : Int32 → Mem → Prop} (hr : 3 < hm) (hW : (st.map fun v => v.category).sum ≤ 8) (hd : decode cc pc = .ok (.invokevirtual 200, 3)) (h : wp_X12_doorsOf Post M v1) (kk : ∀ r M1, Post r M1 → G E x M1 (pc + 3) lv (.int r :: st)) : G E x M pc lv (.int v1 :: .ref (ad E 29) :: st) := k_I (fun hP hS hL => run_V X (w_X12_doorsOf E (xl x)  h) cw_X12_doorsOf m614 m615 m616 (⟨by decide, fun E f h => ⟨_, _, _, rfl, rfl, rfl⟩⟩ : OC 29 RX12) hr rfl hd hW hP hS hL) kk
theorem cw_X12_mayPay : CW yX12_mayPay cX12_mayPay 4 (some .int) 1 := ⟨m603, m499, Nat.le_of_ble_eq_true rfl, by decide +kernel⟩
def wp_X12_mayPay_b41 (Post : Int32 → Mem → Prop) (v1 : Int32) (P8 : Mem → Int32 → Int32 → Prop) (M : Mem) (v3 : Int32) (s0 : Int32) : Prop :=
 ∀ x2_7 : Int32, x2_7 = s0 ||| 0 →
 ∀ x3_8 : Int32, x3_8 = v3 + 1 →
 P8 M x2_7 x3_8
def wp_X12_mayPay_b8 (Post : Int32 → Mem → Prop) (v1 : Int32) (P8 : Mem → Int32 → Int32 → Prop) (M : Mem) (v2 : Int32) (v3 : Int32) : Prop :=
 ((rd M 29 7) ≤ v3 →
  Post v2 M) ∧
 (¬ (rd M 29 7) ≤ v3 →
  vp_in v3 4 ∧
  (¬ (rd M 38 v3.toNatClampNeg) = v1 →
   wp_X12_mayPay_b41 Post v1 P8 M v3 v2) ∧
  ((rd M 38 v3.toNatClampNeg) = v1 →
   wp_X12_mayThen (fun r3 M4 =>
    (r3 = 0 →
     wp_X12_mayPay_b41 Post v1 P8 M4 v3 v2) ∧
    (¬ r3 = 0 →
     ∀ x2_5 : Int32, x2_5 = v2 ||| ((1 : Int32) <<< (v3 &&& 31)) →
     ∀ x3_6 : Int32, x3_6 = v3 + 1 →
     P8 M4 x2_5 x3_6)) M v3))
def wp_X12_mayPay (Post : Int32 → Mem → Prop) (M : Mem) (v1 : Int32) : Prop :=
 ∀ (P8 : Mem → Int32 → Int32 → Prop) ,
  (∀ (M : Mem) (v2 : Int32) (v3 : Int32), wp_X12_mayPay_b8 Post v1 P8 M v2 v3 → P8 M v2 v3) →
 wp_X12_begin (fun M2 =>
  P8 M2 0 0) M 
theorem k_X12_mayPay_b41 {E : Ek} {x : MC} (X : Cx E x cX12_mayPay 4 RX12 3) {Post : Int32 → Mem → Prop} (hQ : QI E x Post (some .int)) {v1 : Int32} {M : Mem} {v3 : Int32} {s0 : Int32} (h : wp_X12_mayPay_b41 Post v1 (fun M v2 v3 => G E x M 8 [(0, .ref (ad E 29)), (1, .int v1), (2, .int v2), (3, .int v3)] []) M v3 s0) : G E x M 41 [(0, .ref (ad E 29)), (1, .int v1), (3, .int v3)] [.int s0] := by
  refine g_iconst (v := 0) X dX12_mayPay_41 (by decide) ?_
  refine g_ior X dX12_mayPay_42 ?_
  refine g_nm h (fun x2_7 h => ?_)
  refine g_istore_n (lv' := [(0, .ref (ad E 29)), (1, .int v1), (2, .int x2_7), (3, .int v3)]) X dX12_mayPay_43 rfl (Nat.le_of_ble_eq_true rfl) rfl rfl ?_
  refine g_iinc (w := 1) X dX12_mayPay_44 3 rfl (by decide) (Nat.le_of_ble_eq_true rfl) rfl (fun x3_8 => [(0, .ref (ad E 29)), (1, .int v1), (2, .int x2_7), (3, .int x3_8)]) (fun _ => rfl) h (fun x3_8 h => ?_)
  refine g_goto (tgt := 8) X dX12_mayPay_47 (by decide) ?_
  exact h
theorem k_X12_mayPay_b8 {E : Ek} {x : MC} (X : Cx E x cX12_mayPay 4 RX12 3) {Post : Int32 → Mem → Prop} (hQ : QI E x Post (some .int)) {v1 : Int32} {M : Mem} {v2 : Int32} {v3 : Int32} (h : wp_X12_mayPay_b8 Post v1 (fun M v2 v3 => G E x M 8 [(0, .ref (ad E 29)), (1, .int v1), (2, .int v2), (3, .int v3)] []) M v2 v3) : G E x M 8 [(0, .ref (ad E 29)), (1, .int v1), (2, .int v2), (3, .int v3)] [] := by
  refine g_iload_n X dX12_mayPay_8 rfl 3 rfl ?_
  refine g_aload_n X dX12_mayPay_9 rfl 0 rfl ?_
  refine fg_X12_162 X dX12_mayPay_10 ?_
  refine g_icmpge (tgt := 50) X dX12_mayPay_13 (by decide) h (fun h => ?_) (fun h => ?_)
  · refine g_iload_n X dX12_mayPay_50 rfl 2 rfl ?_
    exact g_iret X hQ dX12_mayPay_51 h
  · refine g_iload_n X dX12_mayPay_16 rfl 2 rfl ?_
    refine g_aload_n X dX12_mayPay_17 rfl 0 rfl ?_
    refine fg_X12_34 X dX12_mayPay_18 ?_
    refine g_iload_n X dX12_mayPay_21 rfl 3 rfl ?_
    refine g_iald X ia_38 dX12_mayPay_22 h (fun h => ?_)
    refine g_iload_n X dX12_mayPay_23 rfl 1 rfl ?_
    refine g_icmpne (tgt := 41) X dX12_mayPay_24 (by decide) h (fun h => ?_) (fun h => ?_)
    · exact g_sub [0, 1, 3] rfl (k_X12_mayPay_b41 X hQ  h)
    · refine g_aload_n X dX12_mayPay_27 rfl 0 rfl ?_
      refine g_iload_n X dX12_mayPay_28 rfl 3 rfl ?_
      refine cl_X12_194 X (by decide) (Nat.le_of_ble_eq_true rfl) dX12_mayPay_29 h (fun r3 M4 h => ?_)
      refine g_ifeq (tgt := 41) X dX12_mayPay_32 (by decide) h (fun h => ?_) (fun h => ?_)
      · exact g_sub [0, 1, 3] rfl (k_X12_mayPay_b41 X hQ  h)
      · refine g_iconst (v := 1) X dX12_mayPay_35 (by decide) ?_
        refine g_iload_n X dX12_mayPay_36 rfl 3 rfl ?_
        refine g_ishl X dX12_mayPay_37 ?_
        refine g_goto (tgt := 42) X dX12_mayPay_38 (by decide) ?_
        refine g_ior X dX12_mayPay_42 ?_
        refine g_nm h (fun x2_5 h => ?_)
        refine g_istore_n (lv' := [(0, .ref (ad E 29)), (1, .int v1), (2, .int x2_5), (3, .int v3)]) X dX12_mayPay_43 rfl (Nat.le_of_ble_eq_true rfl) rfl rfl ?_
        refine g_iinc (w := 1) X dX12_mayPay_44 3 rfl (by decide) (Nat.le_of_ble_eq_true rfl) rfl (fun x3_6 => [(0, .ref (ad E 29)), (1, .int v1), (2, .int x2_5), (3, .int x3_6)]) (fun _ => rfl) h (fun x3_6 h => ?_)
        refine g_goto (tgt := 8) X dX12_mayPay_47 (by decide) ?_
        exact h
theorem w_X12_mayPay (E : Ek) (l : Launch) {v1 : Int32} {M : Mem} {Post : Int32 → Mem → Prop} (h : wp_X12_mayPay Post M v1) : ctI E l yX12_mayPay cX12_mayPay 4 (some .int) 3 [.ref (ad E 29), .int v1] M Post := by
  refine ct_of (by decide) (Nat.le_of_ble_eq_true rfl) (fun x X hQ => ?_)
  have h := h (fun M v2 v3 => G E x M 8 [(0, .ref (ad E 29)), (1, .int v1), (2, .int v2), (3, .int v3)] []) (fun M v2 v3 h => k_X12_mayPay_b8 X hQ  h)
  change G E x M 0 [(0, .ref (ad E 29)), (1, .int v1)] []
  refine g_aload_n X dX12_mayPay_0 rfl 0 rfl ?_
  refine cl_X12_191 X (by decide) (Nat.le_of_ble_eq_true rfl) dX12_mayPay_1 h (fun M2 h => ?_)
  refine g_iconst (v := 0) X dX12_mayPay_4 (by decide) ?_
  refine g_istore_n (lv' := [(0, .ref (ad E 29)), (1, .int v1), (2, .int 0)]) X dX12_mayPay_5 rfl (Nat.le_of_ble_eq_true rfl) rfl rfl ?_
  refine g_iconst (v := 0) X dX12_mayPay_6 (by decide) ?_
  refine g_istore_n (lv' := [(0, .ref (ad E 29)), (1, .int v1), (2, .int 0), (3, .int 0)]) X dX12_mayPay_7 rfl (Nat.le_of_ble_eq_true rfl) rfl rfl ?_
  exact h
theorem cl_X12_203 {E : Ek} {x : MC} {cc : ByteArray} {nL hm pc : Nat} {M : Mem} {lv : List (Nat × Value)} {st : List Value} (X : Cx E x cc nL RX12 hm) {v1 : Int32} {Post : Int32 → Mem → Prop} (hr : 3 < hm) (hW : (st.map fun v => v.category).sum ≤ 8) (hd : decode cc pc = .ok (.invokevirtual 203, 3)) (h : wp_X12_mayPay Post M v1) (kk : ∀ r M1, Post r M1 → G E x M1 (pc + 3) lv (.int r :: st)) : G E x M pc lv (.int v1 :: .ref (ad E 29) :: st) := k_I (fun hP hS hL => run_V X (w_X12_mayPay E (xl x)  h) cw_X12_mayPay m617 m618 m619 (⟨by decide, fun E f h => ⟨_, _, _, rfl, rfl, rfl⟩⟩ : OC 29 RX12) hr rfl hd hW hP hS hL) kk
theorem cw_X12_standing : CW yX12_standing cX12_standing 4 (some .int) 1 := ⟨m604, m499, Nat.le_of_ble_eq_true rfl, by decide +kernel⟩
def wp_X12_standing_b50 (Post : Int32 → Mem → Prop) (v1 : Int32) (P12 : Mem → Int32 → Int32 → Prop) (M : Mem) (v3 : Int32) (s0 : Int32) (s1 : Int32) : Prop :=
 ∀ x2_3 : Int32, x2_3 = s0 + s1 →
 vp_in v3 4 ∧
 (¬ (rd M 38 v3.toNatClampNeg) = v1 →
  ∀ x2_4 : Int32, x2_4 = x2_3 - 0 →
  ∀ x3_5 : Int32, x3_5 = v3 + 1 →
  P12 M x2_4 x3_5) ∧
 ((rd M 38 v3.toNatClampNeg) = v1 →
  vp_in v3 4 ∧
  ∀ x2_6 : Int32, x2_6 = x2_3 - (rd M 41 v3.toNatClampNeg) →
  ∀ x3_7 : Int32, x3_7 = v3 + 1 →
  P12 M x2_6 x3_7)
def wp_X12_standing_b12 (Post : Int32 → Mem → Prop) (v1 : Int32) (P12 : Mem → Int32 → Int32 → Prop) (M : Mem) (v2 : Int32) (v3 : Int32) : Prop :=
 ((rd M 29 7) ≤ v3 →
  Post v2 M) ∧
 (¬ (rd M 29 7) ≤ v3 →
  vp_in v3 4 ∧
  (¬ (rd M 42 v3.toNatClampNeg) = 0 →
   ∀ x3_2 : Int32, x3_2 = v3 + 1 →
   P12 M v2 x3_2) ∧
  ((rd M 42 v3.toNatClampNeg) = 0 →
   vp_in v3 4 ∧
   (¬ (rd M 39 v3.toNatClampNeg) = v1 →
    wp_X12_standing_b50 Post v1 P12 M v3 v2 0) ∧
   ((rd M 39 v3.toNatClampNeg) = v1 →
    vp_in v3 4 ∧
    wp_X12_standing_b50 Post v1 P12 M v3 v2 (rd M 41 v3.toNatClampNeg))))
def wp_X12_standing (Post : Int32 → Mem → Prop) (M : Mem) (v1 : Int32) : Prop :=
 ∀ (P12 : Mem → Int32 → Int32 → Prop) ,
  (∀ (M : Mem) (v2 : Int32) (v3 : Int32), wp_X12_standing_b12 Post v1 P12 M v2 v3 → P12 M v2 v3) →
 vp_in v1 4 ∧
 ∀ x2_1 : Int32, x2_1 = (100 : Int32) + (rd M 35 v1.toNatClampNeg) →
 P12 M x2_1 0
theorem k_X12_standing_b50 {E : Ek} {x : MC} (X : Cx E x cX12_standing 4 RX12 1) {Post : Int32 → Mem → Prop} (hQ : QI E x Post (some .int)) {v1 : Int32} {M : Mem} {v3 : Int32} {s0 : Int32} {s1 : Int32} (h : wp_X12_standing_b50 Post v1 (fun M v2 v3 => G E x M 12 [(0, .ref (ad E 29)), (1, .int v1), (2, .int v2), (3, .int v3)] []) M v3 s0 s1) : G E x M 50 [(0, .ref (ad E 29)), (1, .int v1), (3, .int v3)] [.int s1, .int s0] := by
  refine g_iadd X dX12_standing_50 ?_
  refine g_nm h (fun x2_3 h => ?_)
  refine g_istore_n (lv' := [(0, .ref (ad E 29)), (1, .int v1), (2, .int x2_3), (3, .int v3)]) X dX12_standing_51 rfl (Nat.le_of_ble_eq_true rfl) rfl rfl ?_
  refine g_iload_n X dX12_standing_52 rfl 2 rfl ?_
  refine g_aload_n X dX12_standing_53 rfl 0 rfl ?_
  refine fg_X12_34 X dX12_standing_54 ?_
  refine g_iload_n X dX12_standing_57 rfl 3 rfl ?_
  refine g_iald X ia_38 dX12_standing_58 h (fun h => ?_)
  refine g_iload_n X dX12_standing_59 rfl 1 rfl ?_
  refine g_icmpne (tgt := 72) X dX12_standing_60 (by decide) h (fun h => ?_) (fun h => ?_)
  · refine g_iconst (v := 0) X dX12_standing_72 (by decide) ?_
    refine g_isub X dX12_standing_73 ?_
    refine g_nm h (fun x2_4 h => ?_)
    refine g_istore_n (lv' := [(0, .ref (ad E 29)), (1, .int v1), (2, .int x2_4), (3, .int v3)]) X dX12_standing_74 rfl (Nat.le_of_ble_eq_true rfl) rfl rfl ?_
    refine g_iinc (w := 1) X dX12_standing_75 3 rfl (by decide) (Nat.le_of_ble_eq_true rfl) rfl (fun x3_5 => [(0, .ref (ad E 29)), (1, .int v1), (2, .int x2_4), (3, .int x3_5)]) (fun _ => rfl) h (fun x3_5 h => ?_)
    refine g_goto (tgt := 12) X dX12_standing_78 (by decide) ?_
    exact h
  · refine g_aload_n X dX12_standing_63 rfl 0 rfl ?_
    refine fg_X12_43 X dX12_standing_64 ?_
    refine g_iload_n X dX12_standing_67 rfl 3 rfl ?_
    refine g_iald X ia_41 dX12_standing_68 h (fun h => ?_)
    refine g_goto (tgt := 73) X dX12_standing_69 (by decide) ?_
    refine g_isub X dX12_standing_73 ?_
    refine g_nm h (fun x2_6 h => ?_)
    refine g_istore_n (lv' := [(0, .ref (ad E 29)), (1, .int v1), (2, .int x2_6), (3, .int v3)]) X dX12_standing_74 rfl (Nat.le_of_ble_eq_true rfl) rfl rfl ?_
    refine g_iinc (w := 1) X dX12_standing_75 3 rfl (by decide) (Nat.le_of_ble_eq_true rfl) rfl (fun x3_7 => [(0, .ref (ad E 29)), (1, .int v1), (2, .int x2_6), (3, .int x3_7)]) (fun _ => rfl) h (fun x3_7 h => ?_)
    refine g_goto (tgt := 12) X dX12_standing_78 (by decide) ?_
    exact h
theorem k_X12_standing_b12 {E : Ek} {x : MC} (X : Cx E x cX12_standing 4 RX12 1) {Post : Int32 → Mem → Prop} (hQ : QI E x Post (some .int)) {v1 : Int32} {M : Mem} {v2 : Int32} {v3 : Int32} (h : wp_X12_standing_b12 Post v1 (fun M v2 v3 => G E x M 12 [(0, .ref (ad E 29)), (1, .int v1), (2, .int v2), (3, .int v3)] []) M v2 v3) : G E x M 12 [(0, .ref (ad E 29)), (1, .int v1), (2, .int v2), (3, .int v3)] [] := by
  refine g_iload_n X dX12_standing_12 rfl 3 rfl ?_
  refine g_aload_n X dX12_standing_13 rfl 0 rfl ?_
  refine fg_X12_162 X dX12_standing_14 ?_
  refine g_icmpge (tgt := 81) X dX12_standing_17 (by decide) h (fun h => ?_) (fun h => ?_)
  · refine g_iload_n X dX12_standing_81 rfl 2 rfl ?_
    exact g_iret X hQ dX12_standing_82 h
  · refine g_aload_n X dX12_standing_20 rfl 0 rfl ?_
    refine fg_X12_46 X dX12_standing_21 ?_
    refine g_iload_n X dX12_standing_24 rfl 3 rfl ?_
    refine g_iald X ia_42 dX12_standing_25 h (fun h => ?_)
    refine g_ifne (tgt := 75) X dX12_standing_26 (by decide) h (fun h => ?_) (fun h => ?_)
    · refine g_iinc (w := 1) X dX12_standing_75 3 rfl (by decide) (Nat.le_of_ble_eq_true rfl) rfl (fun x3_2 => [(0, .ref (ad E 29)), (1, .int v1), (2, .int v2), (3, .int x3_2)]) (fun _ => rfl) h (fun x3_2 h => ?_)
      refine g_goto (tgt := 12) X dX12_standing_78 (by decide) ?_
      exact h
    · refine g_iload_n X dX12_standing_29 rfl 2 rfl ?_
      refine g_aload_n X dX12_standing_30 rfl 0 rfl ?_
      refine fg_X12_37 X dX12_standing_31 ?_
      refine g_iload_n X dX12_standing_34 rfl 3 rfl ?_
      refine g_iald X ia_39 dX12_standing_35 h (fun h => ?_)
      refine g_iload_n X dX12_standing_36 rfl 1 rfl ?_
      refine g_icmpne (tgt := 49) X dX12_standing_37 (by decide) h (fun h => ?_) (fun h => ?_)
      · refine g_iconst (v := 0) X dX12_standing_49 (by decide) ?_
        exact g_sub [0, 1, 3] rfl (k_X12_standing_b50 X hQ  h)
      · refine g_aload_n X dX12_standing_40 rfl 0 rfl ?_
        refine fg_X12_43 X dX12_standing_41 ?_
        refine g_iload_n X dX12_standing_44 rfl 3 rfl ?_
        refine g_iald X ia_41 dX12_standing_45 h (fun h => ?_)
        refine g_goto (tgt := 50) X dX12_standing_46 (by decide) ?_
        exact g_sub [0, 1, 3] rfl (k_X12_standing_b50 X hQ  h)
theorem w_X12_standing (E : Ek) (l : Launch) {v1 : Int32} {M : Mem} {Post : Int32 → Mem → Prop} (h : wp_X12_standing Post M v1) : ctI E l yX12_standing cX12_standing 4 (some .int) 1 [.ref (ad E 29), .int v1] M Post := by
  refine ct_of (by decide) (Nat.le_of_ble_eq_true rfl) (fun x X hQ => ?_)
  have h := h (fun M v2 v3 => G E x M 12 [(0, .ref (ad E 29)), (1, .int v1), (2, .int v2), (3, .int v3)] []) (fun M v2 v3 h => k_X12_standing_b12 X hQ  h)
  change G E x M 0 [(0, .ref (ad E 29)), (1, .int v1)] []
  refine g_bipush (v := 100) X dX12_standing_0 (by decide) ?_
  refine g_aload_n X dX12_standing_2 rfl 0 rfl ?_
  refine fg_X12_25 X dX12_standing_3 ?_
  refine g_iload_n X dX12_standing_6 rfl 1 rfl ?_
  refine g_iald X ia_35 dX12_standing_7 h (fun h => ?_)
  refine g_iadd X dX12_standing_8 ?_
  refine g_nm h (fun x2_1 h => ?_)
  refine g_istore_n (lv' := [(0, .ref (ad E 29)), (1, .int v1), (2, .int x2_1)]) X dX12_standing_9 rfl (Nat.le_of_ble_eq_true rfl) rfl rfl ?_
  refine g_iconst (v := 0) X dX12_standing_10 (by decide) ?_
  refine g_istore_n (lv' := [(0, .ref (ad E 29)), (1, .int v1), (2, .int x2_1), (3, .int 0)]) X dX12_standing_11 rfl (Nat.le_of_ble_eq_true rfl) rfl rfl ?_
  exact h
theorem cl_X12_206 {E : Ek} {x : MC} {cc : ByteArray} {nL hm pc : Nat} {M : Mem} {lv : List (Nat × Value)} {st : List Value} (X : Cx E x cc nL RX12 hm) {v1 : Int32} {Post : Int32 → Mem → Prop} (hr : 1 < hm) (hW : (st.map fun v => v.category).sum ≤ 8) (hd : decode cc pc = .ok (.invokevirtual 206, 3)) (h : wp_X12_standing Post M v1) (kk : ∀ r M1, Post r M1 → G E x M1 (pc + 3) lv (.int r :: st)) : G E x M pc lv (.int v1 :: .ref (ad E 29) :: st) := k_I (fun hP hS hL => run_V X (w_X12_standing E (xl x)  h) cw_X12_standing m620 m621 m622 (⟨by decide, fun E f h => ⟨_, _, _, rfl, rfl, rfl⟩⟩ : OC 29 RX12) hr rfl hd hW hP hS hL) kk
theorem cw_X12_pursesOf : CW yX12_pursesOf cX12_pursesOf 6 (some .int) 1 := ⟨m606, m499, Nat.le_of_ble_eq_true rfl, by decide +kernel⟩
def wp_X12_pursesOf_b68 (Post : Int32 → Mem → Prop) (v1 : Int32) (P4 : Mem → Int32 → Int32 → Prop) (P16 : Mem → Int32 → Int32 → Int32 → Int32 → Prop) (M : Mem) (v2 : Int32) (v3 : Int32) (v5 : Int32) (s0 : Int32) : Prop :=
 vp_in (v5 + 1) 12 ∧
 (¬ s0 = (rd M 52 (v5 + 1).toNatClampNeg) →
  ∀ x5_9 : Int32, x5_9 = v5 + 2 →
  P16 M v2 v3 0 x5_9) ∧
 (s0 = (rd M 52 (v5 + 1).toNatClampNeg) →
  ∀ x5_10 : Int32, x5_10 = v5 + 2 →
  P16 M v2 v3 1 x5_10)
def wp_X12_pursesOf_b16 (Post : Int32 → Mem → Prop) (v1 : Int32) (P4 : Mem → Int32 → Int32 → Prop) (P16 : Mem → Int32 → Int32 → Int32 → Int32 → Prop) (M : Mem) (v2 : Int32) (v3 : Int32) (v4 : Int32) (v5 : Int32) : Prop :=
 (((2 : Int32) * (rd M 29 31)) ≤ v5 →
  (v4 = 0 →
   ∀ x2_1 : Int32, x2_1 = v2 ||| 0 →
   ∀ x3_2 : Int32, x3_2 = v3 + 1 →
   P4 M x2_1 x3_2) ∧
  (¬ v4 = 0 →
   ∀ x2_3 : Int32, x2_3 = v2 ||| ((1 : Int32) <<< (v3 &&& 31)) →
   ∀ x3_4 : Int32, x3_4 = v3 + 1 →
   P4 M x2_3 x3_4)) ∧
 (¬ ((2 : Int32) * (rd M 29 31)) ≤ v5 →
  vp_in v5 12 ∧
  vp_in (rd M 52 v5.toNatClampNeg) 4 ∧
  (¬ (rd M 38 (rd M 52 v5.toNatClampNeg).toNatClampNeg) = v1 →
   ∀ x5_5 : Int32, x5_5 = v5 + 2 →
   P16 M v2 v3 v4 x5_5) ∧
  ((rd M 38 (rd M 52 v5.toNatClampNeg).toNatClampNeg) = v1 →
   (v4 = 0 →
    ∀ x5_6 : Int32, x5_6 = v5 + 2 →
    P16 M v2 v3 0 x5_6) ∧
   (¬ v4 = 0 →
    vp_in v5 12 ∧
    wp_X12_costs (fun r7 M8 =>
     (v3 < r7 →
      wp_X12_pursesOf_b68 Post v1 P4 P16 M8 v2 v3 v5 0) ∧
     (¬ v3 < r7 →
      wp_X12_pursesOf_b68 Post v1 P4 P16 M8 v2 v3 v5 1)) M (rd M 52 v5.toNatClampNeg))))
def wp_X12_pursesOf_b4 (Post : Int32 → Mem → Prop) (v1 : Int32) (P4 : Mem → Int32 → Int32 → Prop) (P16 : Mem → Int32 → Int32 → Int32 → Int32 → Prop) (M : Mem) (v2 : Int32) (v3 : Int32) : Prop :=
 (10 ≤ v3 →
  Post v2 M) ∧
 (¬ 10 ≤ v3 →
  P16 M v2 v3 1 0)
def wp_X12_pursesOf (Post : Int32 → Mem → Prop) (M : Mem) (v1 : Int32) : Prop :=
 ∀ (P4 : Mem → Int32 → Int32 → Prop) (P16 : Mem → Int32 → Int32 → Int32 → Int32 → Prop) ,
  (∀ (M : Mem) (v2 : Int32) (v3 : Int32), wp_X12_pursesOf_b4 Post v1 P4 P16 M v2 v3 → P4 M v2 v3) →
  (∀ (M : Mem) (v2 : Int32) (v3 : Int32) (v4 : Int32) (v5 : Int32), wp_X12_pursesOf_b16 Post v1 P4 P16 M v2 v3 v4 v5 → P16 M v2 v3 v4 v5) →
 P4 M 0 0
theorem k_X12_pursesOf_b68 {E : Ek} {x : MC} (X : Cx E x cX12_pursesOf 6 RX12 2) {Post : Int32 → Mem → Prop} (hQ : QI E x Post (some .int)) {v1 : Int32} {M : Mem} {v2 : Int32} {v3 : Int32} {v5 : Int32} {s0 : Int32} (h : wp_X12_pursesOf_b68 Post v1 (fun M v2 v3 => G E x M 4 [(0, .ref (ad E 29)), (1, .int v1), (2, .int v2), (3, .int v3)] []) (fun M v2 v3 v4 v5 => G E x M 16 [(0, .ref (ad E 29)), (1, .int v1), (2, .int v2), (3, .int v3), (4, .int v4), (5, .int v5)] []) M v2 v3 v5 s0) : G E x M 68 [(0, .ref (ad E 29)), (1, .int v1), (2, .int v2), (3, .int v3), (5, .int v5)] [.int s0] := by
  refine g_aload_n X dX12_pursesOf_68 rfl 0 rfl ?_
  refine fg_X12_76 X dX12_pursesOf_69 ?_
  refine g_iload X dX12_pursesOf_72 4 rfl ?_
  refine g_iconst (v := 1) X dX12_pursesOf_74 (by decide) ?_
  refine g_iadd X dX12_pursesOf_75 ?_
  refine g_iald X ia_52 dX12_pursesOf_76 h (fun h => ?_)
  refine g_icmpne (tgt := 84) X dX12_pursesOf_77 (by decide) h (fun h => ?_) (fun h => ?_)
  · refine g_iconst (v := 0) X dX12_pursesOf_84 (by decide) ?_
    refine g_istore (lv' := [(0, .ref (ad E 29)), (1, .int v1), (2, .int v2), (3, .int v3), (4, .int 0), (5, .int v5)]) X dX12_pursesOf_85 (Nat.le_of_ble_eq_true rfl) rfl rfl ?_
    refine g_iinc (w := 2) X dX12_pursesOf_87 5 rfl (by decide) (Nat.le_of_ble_eq_true rfl) rfl (fun x5_9 => [(0, .ref (ad E 29)), (1, .int v1), (2, .int v2), (3, .int v3), (4, .int 0), (5, .int x5_9)]) (fun _ => rfl) h (fun x5_9 h => ?_)
    refine g_goto (tgt := 16) X dX12_pursesOf_90 (by decide) ?_
    exact h
  · refine g_iconst (v := 1) X dX12_pursesOf_80 (by decide) ?_
    refine g_goto (tgt := 85) X dX12_pursesOf_81 (by decide) ?_
    refine g_istore (lv' := [(0, .ref (ad E 29)), (1, .int v1), (2, .int v2), (3, .int v3), (4, .int 1), (5, .int v5)]) X dX12_pursesOf_85 (Nat.le_of_ble_eq_true rfl) rfl rfl ?_
    refine g_iinc (w := 2) X dX12_pursesOf_87 5 rfl (by decide) (Nat.le_of_ble_eq_true rfl) rfl (fun x5_10 => [(0, .ref (ad E 29)), (1, .int v1), (2, .int v2), (3, .int v3), (4, .int 1), (5, .int x5_10)]) (fun _ => rfl) h (fun x5_10 h => ?_)
    refine g_goto (tgt := 16) X dX12_pursesOf_90 (by decide) ?_
    exact h
theorem k_X12_pursesOf_b16 {E : Ek} {x : MC} (X : Cx E x cX12_pursesOf 6 RX12 2) {Post : Int32 → Mem → Prop} (hQ : QI E x Post (some .int)) {v1 : Int32} {M : Mem} {v2 : Int32} {v3 : Int32} {v4 : Int32} {v5 : Int32} (h : wp_X12_pursesOf_b16 Post v1 (fun M v2 v3 => G E x M 4 [(0, .ref (ad E 29)), (1, .int v1), (2, .int v2), (3, .int v3)] []) (fun M v2 v3 v4 v5 => G E x M 16 [(0, .ref (ad E 29)), (1, .int v1), (2, .int v2), (3, .int v3), (4, .int v4), (5, .int v5)] []) M v2 v3 v4 v5) : G E x M 16 [(0, .ref (ad E 29)), (1, .int v1), (2, .int v2), (3, .int v3), (4, .int v4), (5, .int v5)] [] := by
  refine g_iload X dX12_pursesOf_16 5 rfl ?_
  refine g_iconst (v := 2) X dX12_pursesOf_18 (by decide) ?_
  refine g_aload_n X dX12_pursesOf_19 rfl 0 rfl ?_
  refine fg_X12_171 X dX12_pursesOf_20 ?_
  refine g_imul X dX12_pursesOf_23 ?_
  refine g_icmpge (tgt := 93) X dX12_pursesOf_24 (by decide) h (fun h => ?_) (fun h => ?_)
  · refine g_iload_n X dX12_pursesOf_93 rfl 2 rfl ?_
    refine g_iload X dX12_pursesOf_94 4 rfl ?_
    refine g_ifeq (tgt := 105) X dX12_pursesOf_96 (by decide) h (fun h => ?_) (fun h => ?_)
    · refine g_iconst (v := 0) X dX12_pursesOf_105 (by decide) ?_
      refine g_ior X dX12_pursesOf_106 ?_
      refine g_nm h (fun x2_1 h => ?_)
      refine g_istore_n (lv' := [(0, .ref (ad E 29)), (1, .int v1), (2, .int x2_1), (3, .int v3), (4, .int v4), (5, .int v5)]) X dX12_pursesOf_107 rfl (Nat.le_of_ble_eq_true rfl) rfl rfl ?_
      refine g_iinc (w := 1) X dX12_pursesOf_108 3 rfl (by decide) (Nat.le_of_ble_eq_true rfl) rfl (fun x3_2 => [(0, .ref (ad E 29)), (1, .int v1), (2, .int x2_1), (3, .int x3_2), (4, .int v4), (5, .int v5)]) (fun _ => rfl) h (fun x3_2 h => ?_)
      refine g_goto (tgt := 4) X dX12_pursesOf_111 (by decide) ?_
      exact g_sub [0, 1, 2, 3] rfl h
    · refine g_iconst (v := 1) X dX12_pursesOf_99 (by decide) ?_
      refine g_iload_n X dX12_pursesOf_100 rfl 3 rfl ?_
      refine g_ishl X dX12_pursesOf_101 ?_
      refine g_goto (tgt := 106) X dX12_pursesOf_102 (by decide) ?_
      refine g_ior X dX12_pursesOf_106 ?_
      refine g_nm h (fun x2_3 h => ?_)
      refine g_istore_n (lv' := [(0, .ref (ad E 29)), (1, .int v1), (2, .int x2_3), (3, .int v3), (4, .int v4), (5, .int v5)]) X dX12_pursesOf_107 rfl (Nat.le_of_ble_eq_true rfl) rfl rfl ?_
      refine g_iinc (w := 1) X dX12_pursesOf_108 3 rfl (by decide) (Nat.le_of_ble_eq_true rfl) rfl (fun x3_4 => [(0, .ref (ad E 29)), (1, .int v1), (2, .int x2_3), (3, .int x3_4), (4, .int v4), (5, .int v5)]) (fun _ => rfl) h (fun x3_4 h => ?_)
      refine g_goto (tgt := 4) X dX12_pursesOf_111 (by decide) ?_
      exact g_sub [0, 1, 2, 3] rfl h
  · refine g_aload_n X dX12_pursesOf_27 rfl 0 rfl ?_
    refine fg_X12_34 X dX12_pursesOf_28 ?_
    refine g_aload_n X dX12_pursesOf_31 rfl 0 rfl ?_
    refine fg_X12_76 X dX12_pursesOf_32 ?_
    refine g_iload X dX12_pursesOf_35 5 rfl ?_
    refine g_iald X ia_52 dX12_pursesOf_37 h (fun h => ?_)
    refine g_iald X ia_38 dX12_pursesOf_38 h (fun h => ?_)
    refine g_iload_n X dX12_pursesOf_39 rfl 1 rfl ?_
    refine g_icmpne (tgt := 87) X dX12_pursesOf_40 (by decide) h (fun h => ?_) (fun h => ?_)
    · refine g_iinc (w := 2) X dX12_pursesOf_87 5 rfl (by decide) (Nat.le_of_ble_eq_true rfl) rfl (fun x5_5 => [(0, .ref (ad E 29)), (1, .int v1), (2, .int v2), (3, .int v3), (4, .int v4), (5, .int x5_5)]) (fun _ => rfl) h (fun x5_5 h => ?_)
      refine g_goto (tgt := 16) X dX12_pursesOf_90 (by decide) ?_
      exact h
    · refine g_iload X dX12_pursesOf_43 4 rfl ?_
      refine g_ifeq (tgt := 84) X dX12_pursesOf_45 (by decide) h (fun h => ?_) (fun h => ?_)
      · refine g_iconst (v := 0) X dX12_pursesOf_84 (by decide) ?_
        refine g_istore (lv' := [(0, .ref (ad E 29)), (1, .int v1), (2, .int v2), (3, .int v3), (4, .int 0), (5, .int v5)]) X dX12_pursesOf_85 (Nat.le_of_ble_eq_true rfl) rfl rfl ?_
        refine g_iinc (w := 2) X dX12_pursesOf_87 5 rfl (by decide) (Nat.le_of_ble_eq_true rfl) rfl (fun x5_6 => [(0, .ref (ad E 29)), (1, .int v1), (2, .int v2), (3, .int v3), (4, .int 0), (5, .int x5_6)]) (fun _ => rfl) h (fun x5_6 h => ?_)
        refine g_goto (tgt := 16) X dX12_pursesOf_90 (by decide) ?_
        exact h
      · refine g_iload_n X dX12_pursesOf_48 rfl 3 rfl ?_
        refine g_aload_n X dX12_pursesOf_49 rfl 0 rfl ?_
        refine g_aload_n X dX12_pursesOf_50 rfl 0 rfl ?_
        refine fg_X12_76 X dX12_pursesOf_51 ?_
        refine g_iload X dX12_pursesOf_54 5 rfl ?_
        refine g_iald X ia_52 dX12_pursesOf_56 h (fun h => ?_)
        refine cl_X12_184 X (by decide) (Nat.le_of_ble_eq_true rfl) dX12_pursesOf_57 h (fun r7 M8 h => ?_)
        refine g_icmplt (tgt := 67) X dX12_pursesOf_60 (by decide) h (fun h => ?_) (fun h => ?_)
        · refine g_iconst (v := 0) X dX12_pursesOf_67 (by decide) ?_
          exact g_sub [0, 1, 2, 3, 5] rfl (k_X12_pursesOf_b68 X hQ  h)
        · refine g_iconst (v := 1) X dX12_pursesOf_63 (by decide) ?_
          refine g_goto (tgt := 68) X dX12_pursesOf_64 (by decide) ?_
          exact g_sub [0, 1, 2, 3, 5] rfl (k_X12_pursesOf_b68 X hQ  h)
theorem k_X12_pursesOf_b4 {E : Ek} {x : MC} (X : Cx E x cX12_pursesOf 6 RX12 2) {Post : Int32 → Mem → Prop} (hQ : QI E x Post (some .int)) {v1 : Int32} {M : Mem} {v2 : Int32} {v3 : Int32} (h : wp_X12_pursesOf_b4 Post v1 (fun M v2 v3 => G E x M 4 [(0, .ref (ad E 29)), (1, .int v1), (2, .int v2), (3, .int v3)] []) (fun M v2 v3 v4 v5 => G E x M 16 [(0, .ref (ad E 29)), (1, .int v1), (2, .int v2), (3, .int v3), (4, .int v4), (5, .int v5)] []) M v2 v3) : G E x M 4 [(0, .ref (ad E 29)), (1, .int v1), (2, .int v2), (3, .int v3)] [] := by
  refine g_iload_n X dX12_pursesOf_4 rfl 3 rfl ?_
  refine g_bipush (v := 10) X dX12_pursesOf_5 (by decide) ?_
  refine g_icmpge (tgt := 114) X dX12_pursesOf_7 (by decide) h (fun h => ?_) (fun h => ?_)
  · refine g_iload_n X dX12_pursesOf_114 rfl 2 rfl ?_
    exact g_iret X hQ dX12_pursesOf_115 h
  · refine g_iconst (v := 1) X dX12_pursesOf_10 (by decide) ?_
    refine g_istore (lv' := [(0, .ref (ad E 29)), (1, .int v1), (2, .int v2), (3, .int v3), (4, .int 1)]) X dX12_pursesOf_11 (Nat.le_of_ble_eq_true rfl) rfl rfl ?_
    refine g_iconst (v := 0) X dX12_pursesOf_13 (by decide) ?_
    refine g_istore (lv' := [(0, .ref (ad E 29)), (1, .int v1), (2, .int v2), (3, .int v3), (4, .int 1), (5, .int 0)]) X dX12_pursesOf_14 (Nat.le_of_ble_eq_true rfl) rfl rfl ?_
    exact h
theorem w_X12_pursesOf (E : Ek) (l : Launch) {v1 : Int32} {M : Mem} {Post : Int32 → Mem → Prop} (h : wp_X12_pursesOf Post M v1) : ctI E l yX12_pursesOf cX12_pursesOf 6 (some .int) 2 [.ref (ad E 29), .int v1] M Post := by
  refine ct_of (by decide) (Nat.le_of_ble_eq_true rfl) (fun x X hQ => ?_)
  have h := h (fun M v2 v3 => G E x M 4 [(0, .ref (ad E 29)), (1, .int v1), (2, .int v2), (3, .int v3)] []) (fun M v2 v3 v4 v5 => G E x M 16 [(0, .ref (ad E 29)), (1, .int v1), (2, .int v2), (3, .int v3), (4, .int v4), (5, .int v5)] []) (fun M v2 v3 h => k_X12_pursesOf_b4 X hQ  h) (fun M v2 v3 v4 v5 h => k_X12_pursesOf_b16 X hQ  h)
  change G E x M 0 [(0, .ref (ad E 29)), (1, .int v1)] []
  refine g_iconst (v := 0) X dX12_pursesOf_0 (by decide) ?_
  refine g_istore_n (lv' := [(0, .ref (ad E 29)), (1, .int v1), (2, .int 0)]) X dX12_pursesOf_1 rfl (Nat.le_of_ble_eq_true rfl) rfl rfl ?_
  refine g_iconst (v := 0) X dX12_pursesOf_2 (by decide) ?_
  refine g_istore_n (lv' := [(0, .ref (ad E 29)), (1, .int v1), (2, .int 0), (3, .int 0)]) X dX12_pursesOf_3 rfl (Nat.le_of_ble_eq_true rfl) rfl rfl ?_
  exact h
theorem cl_X12_209 {E : Ek} {x : MC} {cc : ByteArray} {nL hm pc : Nat} {M : Mem} {lv : List (Nat × Value)} {st : List Value} (X : Cx E x cc nL RX12 hm) {v1 : Int32} {Post : Int32 → Mem → Prop} (hr : 2 < hm) (hW : (st.map fun v => v.category).sum ≤ 8) (hd : decode cc pc = .ok (.invokevirtual 209, 3)) (h : wp_X12_pursesOf Post M v1) (kk : ∀ r M1, Post r M1 → G E x M1 (pc + 3) lv (.int r :: st)) : G E x M pc lv (.int v1 :: .ref (ad E 29) :: st) := k_I (fun hP hS hL => run_V X (w_X12_pursesOf E (xl x)  h) cw_X12_pursesOf m607 m608 m609 (⟨by decide, fun E f h => ⟨_, _, _, rfl, rfl, rfl⟩⟩ : OC 29 RX12) hr rfl hd hW hP hS hL) kk
