theorem cw_X12_restore : CW yX12_restore cX12_restore 1 (some .int) 0 := ⟨m770, m499, Nat.le_of_ble_eq_true rfl, by decide +kernel⟩
def wp_X12_restore (Post : Int32 → Mem → Prop) (M : Mem) : Prop :=
 ((rd M 29 34) = (rd M 29 9) →
  wp_X12_copy (fun M2 =>
   wp_X12_copy (fun M4 =>
    wp_X12_copy (fun M6 =>
     wp_X12_copy (fun M8 =>
      wp_X12_copy (fun M10 =>
       wp_X12_copy (fun M12 =>
        ∀ M13 : Mem, M13 = wr M12 29 8 (rd M12 29 35) →
        ∀ M14 : Mem, M14 = wr M13 29 31 (rd M13 29 36) →
        Post (rd M14 29 8) M14) M10 58 12 52 12) M8 57 4 42 4) M6 56 4 41 4) M4 55 2 37 2) M2 54 4 36 4) M 53 4 35 4) ∧
 (¬ (rd M 29 34) = (rd M 29 9) →
  Post (-103) M)
theorem w_X12_restore (E : Ek) (l : Launch) {M : Mem} {Post : Int32 → Mem → Prop} (h : wp_X12_restore Post M ) : ctI E l yX12_restore cX12_restore 1 (some .int) 2 [.ref (ad E 29)] M Post := by
  refine ct_of (by decide) (Nat.le_of_ble_eq_true rfl) (fun x X hQ => ?_)
  change G E x M 0 [(0, .ref (ad E 29))] []
  refine g_aload_n X dX12_restore_0 rfl 0 rfl ?_
  refine fg_X12_97 X dX12_restore_1 ?_
  refine g_aload_n X dX12_restore_4 rfl 0 rfl ?_
  refine fg_X12_174 X dX12_restore_5 ?_
  refine g_icmpeq (tgt := 14) X dX12_restore_8 (by decide) h (fun h => ?_) (fun h => ?_)
  · refine g_aload_n X dX12_restore_14 rfl 0 rfl ?_
    refine fg_X12_79 X dX12_restore_15 ?_
    refine g_aload_n X dX12_restore_18 rfl 0 rfl ?_
    refine fg_X12_25 X dX12_restore_19 ?_
    refine cl_X12_177 X ia_53 ia_35 (by decide) (Nat.le_of_ble_eq_true rfl) dX12_restore_22 h (fun M2 h => ?_)
    refine g_aload_n X dX12_restore_25 rfl 0 rfl ?_
    refine fg_X12_82 X dX12_restore_26 ?_
    refine g_aload_n X dX12_restore_29 rfl 0 rfl ?_
    refine fg_X12_28 X dX12_restore_30 ?_
    refine cl_X12_177 X ia_54 ia_36 (by decide) (Nat.le_of_ble_eq_true rfl) dX12_restore_33 h (fun M4 h => ?_)
    refine g_aload_n X dX12_restore_36 rfl 0 rfl ?_
    refine fg_X12_85 X dX12_restore_37 ?_
    refine g_aload_n X dX12_restore_40 rfl 0 rfl ?_
    refine fg_X12_31 X dX12_restore_41 ?_
    refine cl_X12_177 X ia_55 ia_37 (by decide) (Nat.le_of_ble_eq_true rfl) dX12_restore_44 h (fun M6 h => ?_)
    refine g_aload_n X dX12_restore_47 rfl 0 rfl ?_
    refine fg_X12_88 X dX12_restore_48 ?_
    refine g_aload_n X dX12_restore_51 rfl 0 rfl ?_
    refine fg_X12_43 X dX12_restore_52 ?_
    refine cl_X12_177 X ia_56 ia_41 (by decide) (Nat.le_of_ble_eq_true rfl) dX12_restore_55 h (fun M8 h => ?_)
    refine g_aload_n X dX12_restore_58 rfl 0 rfl ?_
    refine fg_X12_91 X dX12_restore_59 ?_
    refine g_aload_n X dX12_restore_62 rfl 0 rfl ?_
    refine fg_X12_46 X dX12_restore_63 ?_
    refine cl_X12_177 X ia_57 ia_42 (by decide) (Nat.le_of_ble_eq_true rfl) dX12_restore_66 h (fun M10 h => ?_)
    refine g_aload_n X dX12_restore_69 rfl 0 rfl ?_
    refine fg_X12_94 X dX12_restore_70 ?_
    refine g_aload_n X dX12_restore_73 rfl 0 rfl ?_
    refine fg_X12_76 X dX12_restore_74 ?_
    refine cl_X12_177 X ia_58 ia_52 (by decide) (Nat.le_of_ble_eq_true rfl) dX12_restore_77 h (fun M12 h => ?_)
    refine g_aload_n X dX12_restore_80 rfl 0 rfl ?_
    refine g_aload_n X dX12_restore_81 rfl 0 rfl ?_
    refine fg_X12_326 X dX12_restore_82 ?_
    refine fp_X12_168 X dX12_restore_85 h (fun M13 h => ?_)
    refine g_aload_n X dX12_restore_88 rfl 0 rfl ?_
    refine g_aload_n X dX12_restore_89 rfl 0 rfl ?_
    refine fg_X12_329 X dX12_restore_90 ?_
    refine fp_X12_171 X dX12_restore_93 h (fun M14 h => ?_)
    refine g_aload_n X dX12_restore_96 rfl 0 rfl ?_
    refine fg_X12_168 X dX12_restore_97 ?_
    exact g_iret X hQ dX12_restore_100 h
  · refine g_bipush (v := (-103)) X dX12_restore_11 (by decide) ?_
    exact g_iret X hQ dX12_restore_13 h
theorem cw_X12_owedAll : CW yX12_owedAll cX12_owedAll 3 (some .int) 0 := ⟨m771, m499, Nat.le_of_ble_eq_true rfl, by decide +kernel⟩
def wp_X12_owedAll_b4 (Post : Int32 → Mem → Prop) (P4 : Mem → Int32 → Int32 → Prop) (M : Mem) (v1 : Int32) (v2 : Int32) : Prop :=
 ((rd M 29 7) ≤ v2 →
  Post v1 M) ∧
 (¬ (rd M 29 7) ≤ v2 →
  vp_in v2 4 ∧
  (¬ (rd M 42 v2.toNatClampNeg) = 0 →
   ∀ x1_1 : Int32, x1_1 = v1 + 0 →
   ∀ x2_2 : Int32, x2_2 = v2 + 1 →
   P4 M x1_1 x2_2) ∧
  ((rd M 42 v2.toNatClampNeg) = 0 →
   vp_in v2 4 ∧
   ∀ x1_3 : Int32, x1_3 = v1 + (rd M 41 v2.toNatClampNeg) →
   ∀ x2_4 : Int32, x2_4 = v2 + 1 →
   P4 M x1_3 x2_4))
def wp_X12_owedAll (Post : Int32 → Mem → Prop) (M : Mem) : Prop :=
 ∀ (P4 : Mem → Int32 → Int32 → Prop) ,
  (∀ (M : Mem) (v1 : Int32) (v2 : Int32), wp_X12_owedAll_b4 Post P4 M v1 v2 → P4 M v1 v2) →
 P4 M 0 0
theorem k_X12_owedAll_b4 {E : Ek} {x : MC} (X : Cx E x cX12_owedAll 3 RX12 1) {Post : Int32 → Mem → Prop} (hQ : QI E x Post (some .int)) {M : Mem} {v1 : Int32} {v2 : Int32} (h : wp_X12_owedAll_b4 Post (fun M v1 v2 => G E x M 4 [(0, .ref (ad E 29)), (1, .int v1), (2, .int v2)] []) M v1 v2) : G E x M 4 [(0, .ref (ad E 29)), (1, .int v1), (2, .int v2)] [] := by
  refine g_iload_n X dX12_owedAll_4 rfl 2 rfl ?_
  refine g_aload_n X dX12_owedAll_5 rfl 0 rfl ?_
  refine fg_X12_162 X dX12_owedAll_6 ?_
  refine g_icmpge (tgt := 40) X dX12_owedAll_9 (by decide) h (fun h => ?_) (fun h => ?_)
  · refine g_iload_n X dX12_owedAll_40 rfl 1 rfl ?_
    exact g_iret X hQ dX12_owedAll_41 h
  · refine g_iload_n X dX12_owedAll_12 rfl 1 rfl ?_
    refine g_aload_n X dX12_owedAll_13 rfl 0 rfl ?_
    refine fg_X12_46 X dX12_owedAll_14 ?_
    refine g_iload_n X dX12_owedAll_17 rfl 2 rfl ?_
    refine g_iald X ia_42 dX12_owedAll_18 h (fun h => ?_)
    refine g_ifne (tgt := 31) X dX12_owedAll_19 (by decide) h (fun h => ?_) (fun h => ?_)
    · refine g_iconst (v := 0) X dX12_owedAll_31 (by decide) ?_
      refine g_iadd X dX12_owedAll_32 ?_
      refine g_nm h (fun x1_1 h => ?_)
      refine g_istore_n (lv' := [(0, .ref (ad E 29)), (1, .int x1_1), (2, .int v2)]) X dX12_owedAll_33 rfl (Nat.le_of_ble_eq_true rfl) rfl rfl ?_
      refine g_iinc (w := 1) X dX12_owedAll_34 2 rfl (by decide) (Nat.le_of_ble_eq_true rfl) rfl (fun x2_2 => [(0, .ref (ad E 29)), (1, .int x1_1), (2, .int x2_2)]) (fun _ => rfl) h (fun x2_2 h => ?_)
      refine g_goto (tgt := 4) X dX12_owedAll_37 (by decide) ?_
      exact h
    · refine g_aload_n X dX12_owedAll_22 rfl 0 rfl ?_
      refine fg_X12_43 X dX12_owedAll_23 ?_
      refine g_iload_n X dX12_owedAll_26 rfl 2 rfl ?_
      refine g_iald X ia_41 dX12_owedAll_27 h (fun h => ?_)
      refine g_goto (tgt := 32) X dX12_owedAll_28 (by decide) ?_
      refine g_iadd X dX12_owedAll_32 ?_
      refine g_nm h (fun x1_3 h => ?_)
      refine g_istore_n (lv' := [(0, .ref (ad E 29)), (1, .int x1_3), (2, .int v2)]) X dX12_owedAll_33 rfl (Nat.le_of_ble_eq_true rfl) rfl rfl ?_
      refine g_iinc (w := 1) X dX12_owedAll_34 2 rfl (by decide) (Nat.le_of_ble_eq_true rfl) rfl (fun x2_4 => [(0, .ref (ad E 29)), (1, .int x1_3), (2, .int x2_4)]) (fun _ => rfl) h (fun x2_4 h => ?_)
      refine g_goto (tgt := 4) X dX12_owedAll_37 (by decide) ?_
      exact h
theorem w_X12_owedAll (E : Ek) (l : Launch) {M : Mem} {Post : Int32 → Mem → Prop} (h : wp_X12_owedAll Post M ) : ctI E l yX12_owedAll cX12_owedAll 3 (some .int) 1 [.ref (ad E 29)] M Post := by
  refine ct_of (by decide) (Nat.le_of_ble_eq_true rfl) (fun x X hQ => ?_)
  have h := h (fun M v1 v2 => G E x M 4 [(0, .ref (ad E 29)), (1, .int v1), (2, .int v2)] []) (fun M v1 v2 h => k_X12_owedAll_b4 X hQ  h)
  change G E x M 0 [(0, .ref (ad E 29))] []
  refine g_iconst (v := 0) X dX12_owedAll_0 (by decide) ?_
  refine g_istore_n (lv' := [(0, .ref (ad E 29)), (1, .int 0)]) X dX12_owedAll_1 rfl (Nat.le_of_ble_eq_true rfl) rfl rfl ?_
  refine g_iconst (v := 0) X dX12_owedAll_2 (by decide) ?_
  refine g_istore_n (lv' := [(0, .ref (ad E 29)), (1, .int 0), (2, .int 0)]) X dX12_owedAll_3 rfl (Nat.le_of_ble_eq_true rfl) rfl rfl ?_
  exact h
theorem cl_X12_332 {E : Ek} {x : MC} {cc : ByteArray} {nL hm pc : Nat} {M : Mem} {lv : List (Nat × Value)} {st : List Value} (X : Cx E x cc nL RX12 hm) {Post : Int32 → Mem → Prop} (hr : 1 < hm) (hW : (st.map fun v => v.category).sum ≤ 8) (hd : decode cc pc = .ok (.invokevirtual 332, 3)) (h : wp_X12_owedAll Post M ) (kk : ∀ r M1, Post r M1 → G E x M1 (pc + 3) lv (.int r :: st)) : G E x M pc lv (.ref (ad E 29) :: st) := k_I (fun hP hS hL => run_V X (w_X12_owedAll E (xl x)  h) cw_X12_owedAll m773 m774 m775 (⟨by decide, fun E f h => ⟨_, _, _, rfl, rfl, rfl⟩⟩ : OC 29 RX12) hr rfl hd hW hP hS hL) kk
theorem cw_X12_pursesAll : CW yX12_pursesAll cX12_pursesAll 3 (some .int) 0 := ⟨m772, m499, Nat.le_of_ble_eq_true rfl, by decide +kernel⟩
def wp_X12_pursesAll_b4 (Post : Int32 → Mem → Prop) (P4 : Mem → Int32 → Int32 → Prop) (M : Mem) (v1 : Int32) (v2 : Int32) : Prop :=
 ((rd M 29 6) ≤ v2 →
  Post v1 M) ∧
 (¬ (rd M 29 6) ≤ v2 →
  vp_in v2 4 ∧
  ∀ x1_1 : Int32, x1_1 = v1 + (rd M 35 v2.toNatClampNeg) →
  ∀ x2_2 : Int32, x2_2 = v2 + 1 →
  P4 M x1_1 x2_2)
def wp_X12_pursesAll (Post : Int32 → Mem → Prop) (M : Mem) : Prop :=
 ∀ (P4 : Mem → Int32 → Int32 → Prop) ,
  (∀ (M : Mem) (v1 : Int32) (v2 : Int32), wp_X12_pursesAll_b4 Post P4 M v1 v2 → P4 M v1 v2) →
 P4 M 0 0
theorem k_X12_pursesAll_b4 {E : Ek} {x : MC} (X : Cx E x cX12_pursesAll 3 RX12 1) {Post : Int32 → Mem → Prop} (hQ : QI E x Post (some .int)) {M : Mem} {v1 : Int32} {v2 : Int32} (h : wp_X12_pursesAll_b4 Post (fun M v1 v2 => G E x M 4 [(0, .ref (ad E 29)), (1, .int v1), (2, .int v2)] []) M v1 v2) : G E x M 4 [(0, .ref (ad E 29)), (1, .int v1), (2, .int v2)] [] := by
  refine g_iload_n X dX12_pursesAll_4 rfl 2 rfl ?_
  refine g_aload_n X dX12_pursesAll_5 rfl 0 rfl ?_
  refine fg_X12_159 X dX12_pursesAll_6 ?_
  refine g_icmpge (tgt := 27) X dX12_pursesAll_9 (by decide) h (fun h => ?_) (fun h => ?_)
  · refine g_iload_n X dX12_pursesAll_27 rfl 1 rfl ?_
    exact g_iret X hQ dX12_pursesAll_28 h
  · refine g_iload_n X dX12_pursesAll_12 rfl 1 rfl ?_
    refine g_aload_n X dX12_pursesAll_13 rfl 0 rfl ?_
    refine fg_X12_25 X dX12_pursesAll_14 ?_
    refine g_iload_n X dX12_pursesAll_17 rfl 2 rfl ?_
    refine g_iald X ia_35 dX12_pursesAll_18 h (fun h => ?_)
    refine g_iadd X dX12_pursesAll_19 ?_
    refine g_nm h (fun x1_1 h => ?_)
    refine g_istore_n (lv' := [(0, .ref (ad E 29)), (1, .int x1_1), (2, .int v2)]) X dX12_pursesAll_20 rfl (Nat.le_of_ble_eq_true rfl) rfl rfl ?_
    refine g_iinc (w := 1) X dX12_pursesAll_21 2 rfl (by decide) (Nat.le_of_ble_eq_true rfl) rfl (fun x2_2 => [(0, .ref (ad E 29)), (1, .int x1_1), (2, .int x2_2)]) (fun _ => rfl) h (fun x2_2 h => ?_)
    refine g_goto (tgt := 4) X dX12_pursesAll_24 (by decide) ?_
    exact h
theorem w_X12_pursesAll (E : Ek) (l : Launch) {M : Mem} {Post : Int32 → Mem → Prop} (h : wp_X12_pursesAll Post M ) : ctI E l yX12_pursesAll cX12_pursesAll 3 (some .int) 1 [.ref (ad E 29)] M Post := by
  refine ct_of (by decide) (Nat.le_of_ble_eq_true rfl) (fun x X hQ => ?_)
  have h := h (fun M v1 v2 => G E x M 4 [(0, .ref (ad E 29)), (1, .int v1), (2, .int v2)] []) (fun M v1 v2 h => k_X12_pursesAll_b4 X hQ  h)
  change G E x M 0 [(0, .ref (ad E 29))] []
  refine g_iconst (v := 0) X dX12_pursesAll_0 (by decide) ?_
  refine g_istore_n (lv' := [(0, .ref (ad E 29)), (1, .int 0)]) X dX12_pursesAll_1 rfl (Nat.le_of_ble_eq_true rfl) rfl rfl ?_
  refine g_iconst (v := 0) X dX12_pursesAll_2 (by decide) ?_
  refine g_istore_n (lv' := [(0, .ref (ad E 29)), (1, .int 0), (2, .int 0)]) X dX12_pursesAll_3 rfl (Nat.le_of_ble_eq_true rfl) rfl rfl ?_
  exact h
theorem cl_X12_335 {E : Ek} {x : MC} {cc : ByteArray} {nL hm pc : Nat} {M : Mem} {lv : List (Nat × Value)} {st : List Value} (X : Cx E x cc nL RX12 hm) {Post : Int32 → Mem → Prop} (hr : 1 < hm) (hW : (st.map fun v => v.category).sum ≤ 8) (hd : decode cc pc = .ok (.invokevirtual 335, 3)) (h : wp_X12_pursesAll Post M ) (kk : ∀ r M1, Post r M1 → G E x M1 (pc + 3) lv (.int r :: st)) : G E x M pc lv (.ref (ad E 29) :: st) := k_I (fun hP hS hL => run_V X (w_X12_pursesAll E (xl x)  h) cw_X12_pursesAll m776 m777 m778 (⟨by decide, fun E f h => ⟨_, _, _, rfl, rfl, rfl⟩⟩ : OC 29 RX12) hr rfl hd hW hP hS hL) kk
theorem cw_X12_countOf : CW yX12_countOf cX12_countOf 2 (some .int) 1 := ⟨m779, m499, Nat.le_of_ble_eq_true rfl, by decide +kernel⟩
def wp_X12_countOf (Post : Int32 → Mem → Prop) (M : Mem) (v1 : Int32) : Prop :=
 (v1 = 0 →
  Post (rd M 29 4) M) ∧
 (v1 = 1 →
  Post (rd M 29 5) M) ∧
 (v1 = 2 →
  Post (rd M 29 6) M) ∧
 (v1 = 3 →
  Post (rd M 29 7) M) ∧
 (v1 = 4 →
  wp_X12_paidMany (fun r1 M2 =>
   Post r1 M2) M 42 4) ∧
 (v1 = 5 →
  wp_X12_owedAll (fun r3 M4 =>
   Post r3 M4) M ) ∧
 (v1 = 6 →
  wp_X12_pursesAll (fun r5 M6 =>
   Post r5 M6) M ) ∧
 (v1 = 7 →
  Post (rd M 29 8) M) ∧
 (v1 = 8 →
  wp_X12_lacks (fun r7 M8 =>
   (r7 = 0 →
    vp_in (v1 - 8) 2 ∧
    Post (rd M8 37 (v1 - 8).toNatClampNeg) M8) ∧
   (¬ r7 = 0 →
    Post (-1) M8)) M ) ∧
 (v1 = 9 →
  wp_X12_lacks (fun r9 M10 =>
   (r9 = 0 →
    vp_in (v1 - 8) 2 ∧
    Post (rd M10 37 (v1 - 8).toNatClampNeg) M10) ∧
   (¬ r9 = 0 →
    Post (-1) M10)) M ) ∧
 (v1 = 10 →
  Post (rd M 29 31) M) ∧
 (v1 = 11 →
  Post (rd M 29 1) M) ∧
 (v1 = 12 →
  Post (rd M 29 9) M) ∧
 (¬ v1 = 0 → ¬ v1 = 1 → ¬ v1 = 2 → ¬ v1 = 3 → ¬ v1 = 4 → ¬ v1 = 5 → ¬ v1 = 6 → ¬ v1 = 7 → ¬ v1 = 8 → ¬ v1 = 9 → ¬ v1 = 10 → ¬ v1 = 11 → ¬ v1 = 12 → 
  Post (-102) M)
theorem w_X12_countOf (E : Ek) (l : Launch) {v1 : Int32} {M : Mem} {Post : Int32 → Mem → Prop} (h : wp_X12_countOf Post M v1) : ctI E l yX12_countOf cX12_countOf 2 (some .int) 2 [.ref (ad E 29), .int v1] M Post := by
  refine ct_of (by decide) (Nat.le_of_ble_eq_true rfl) (fun x X hQ => ?_)
  change G E x M 0 [(0, .ref (ad E 29)), (1, .int v1)] []
  refine g_iload_n X dX12_countOf_0 rfl 1 rfl ?_
  by_cases c0 : v1 = 0
  · have h := h.1 c0
    refine g_tabI (tgt := 68) X dX12_countOf_1 c0 ⟨⟨by decide, by decide⟩, rfl⟩ (by decide) ?_
    refine g_aload_n X dX12_countOf_68 rfl 0 rfl ?_
    refine fg_X12_153 X dX12_countOf_69 ?_
    exact g_iret X hQ dX12_countOf_72 h
  by_cases c1 : v1 = 1
  · have h := h.2.1 c1
    refine g_tabI (tgt := 73) X dX12_countOf_1 c1 ⟨⟨by decide, by decide⟩, rfl⟩ (by decide) ?_
    refine g_aload_n X dX12_countOf_73 rfl 0 rfl ?_
    refine fg_X12_156 X dX12_countOf_74 ?_
    exact g_iret X hQ dX12_countOf_77 h
  by_cases c2 : v1 = 2
  · have h := h.2.2.1 c2
    refine g_tabI (tgt := 78) X dX12_countOf_1 c2 ⟨⟨by decide, by decide⟩, rfl⟩ (by decide) ?_
    refine g_aload_n X dX12_countOf_78 rfl 0 rfl ?_
    refine fg_X12_159 X dX12_countOf_79 ?_
    exact g_iret X hQ dX12_countOf_82 h
  by_cases c3 : v1 = 3
  · have h := h.2.2.2.1 c3
    refine g_tabI (tgt := 83) X dX12_countOf_1 c3 ⟨⟨by decide, by decide⟩, rfl⟩ (by decide) ?_
    refine g_aload_n X dX12_countOf_83 rfl 0 rfl ?_
    refine fg_X12_162 X dX12_countOf_84 ?_
    exact g_iret X hQ dX12_countOf_87 h
  by_cases c4 : v1 = 4
  · have h := h.2.2.2.2.1 c4
    refine g_tabI (tgt := 88) X dX12_countOf_1 c4 ⟨⟨by decide, by decide⟩, rfl⟩ (by decide) ?_
    refine g_aload_n X dX12_countOf_88 rfl 0 rfl ?_
    refine g_aload_n X dX12_countOf_89 rfl 0 rfl ?_
    refine fg_X12_46 X dX12_countOf_90 ?_
    refine cl_X12_322 X ia_42 (by decide) (Nat.le_of_ble_eq_true rfl) dX12_countOf_93 h (fun r1 M2 h => ?_)
    exact g_iret X hQ dX12_countOf_96 h
  by_cases c5 : v1 = 5
  · have h := h.2.2.2.2.2.1 c5
    refine g_tabI (tgt := 97) X dX12_countOf_1 c5 ⟨⟨by decide, by decide⟩, rfl⟩ (by decide) ?_
    refine g_aload_n X dX12_countOf_97 rfl 0 rfl ?_
    refine cl_X12_332 X (by decide) (Nat.le_of_ble_eq_true rfl) dX12_countOf_98 h (fun r3 M4 h => ?_)
    exact g_iret X hQ dX12_countOf_101 h
  by_cases c6 : v1 = 6
  · have h := h.2.2.2.2.2.2.1 c6
    refine g_tabI (tgt := 102) X dX12_countOf_1 c6 ⟨⟨by decide, by decide⟩, rfl⟩ (by decide) ?_
    refine g_aload_n X dX12_countOf_102 rfl 0 rfl ?_
    refine cl_X12_335 X (by decide) (Nat.le_of_ble_eq_true rfl) dX12_countOf_103 h (fun r5 M6 h => ?_)
    exact g_iret X hQ dX12_countOf_106 h
  by_cases c7 : v1 = 7
  · have h := h.2.2.2.2.2.2.2.1 c7
    refine g_tabI (tgt := 107) X dX12_countOf_1 c7 ⟨⟨by decide, by decide⟩, rfl⟩ (by decide) ?_
    refine g_aload_n X dX12_countOf_107 rfl 0 rfl ?_
    refine fg_X12_168 X dX12_countOf_108 ?_
    exact g_iret X hQ dX12_countOf_111 h
  by_cases c8 : v1 = 8
  · have h := h.2.2.2.2.2.2.2.2.1 c8
    refine g_tabI (tgt := 112) X dX12_countOf_1 c8 ⟨⟨by decide, by decide⟩, rfl⟩ (by decide) ?_
    refine g_aload_n X dX12_countOf_112 rfl 0 rfl ?_
    refine cl_X12_286 X (by decide) (Nat.le_of_ble_eq_true rfl) dX12_countOf_113 h (fun r7 M8 h => ?_)
    refine g_ifeq (tgt := 123) X dX12_countOf_116 (by decide) h (fun h => ?_) (fun h => ?_)
    · refine g_aload_n X dX12_countOf_123 rfl 0 rfl ?_
      refine fg_X12_31 X dX12_countOf_124 ?_
      refine g_iload_n X dX12_countOf_127 rfl 1 rfl ?_
      refine g_bipush (v := 8) X dX12_countOf_128 (by decide) ?_
      refine g_isub X dX12_countOf_130 ?_
      refine g_iald X ia_37 dX12_countOf_131 h (fun h => ?_)
      exact g_iret X hQ dX12_countOf_132 h
    · refine g_iconst (v := (-1)) X dX12_countOf_119 (by decide) ?_
      refine g_goto (tgt := 132) X dX12_countOf_120 (by decide) ?_
      exact g_iret X hQ dX12_countOf_132 h
  by_cases c9 : v1 = 9
  · have h := h.2.2.2.2.2.2.2.2.2.1 c9
    refine g_tabI (tgt := 112) X dX12_countOf_1 c9 ⟨⟨by decide, by decide⟩, rfl⟩ (by decide) ?_
    refine g_aload_n X dX12_countOf_112 rfl 0 rfl ?_
    refine cl_X12_286 X (by decide) (Nat.le_of_ble_eq_true rfl) dX12_countOf_113 h (fun r9 M10 h => ?_)
    refine g_ifeq (tgt := 123) X dX12_countOf_116 (by decide) h (fun h => ?_) (fun h => ?_)
    · refine g_aload_n X dX12_countOf_123 rfl 0 rfl ?_
      refine fg_X12_31 X dX12_countOf_124 ?_
      refine g_iload_n X dX12_countOf_127 rfl 1 rfl ?_
      refine g_bipush (v := 8) X dX12_countOf_128 (by decide) ?_
      refine g_isub X dX12_countOf_130 ?_
      refine g_iald X ia_37 dX12_countOf_131 h (fun h => ?_)
      exact g_iret X hQ dX12_countOf_132 h
    · refine g_iconst (v := (-1)) X dX12_countOf_119 (by decide) ?_
      refine g_goto (tgt := 132) X dX12_countOf_120 (by decide) ?_
      exact g_iret X hQ dX12_countOf_132 h
  by_cases c10 : v1 = 10
  · have h := h.2.2.2.2.2.2.2.2.2.2.1 c10
    refine g_tabI (tgt := 133) X dX12_countOf_1 c10 ⟨⟨by decide, by decide⟩, rfl⟩ (by decide) ?_
    refine g_aload_n X dX12_countOf_133 rfl 0 rfl ?_
    refine fg_X12_171 X dX12_countOf_134 ?_
    exact g_iret X hQ dX12_countOf_137 h
  by_cases c11 : v1 = 11
  · have h := h.2.2.2.2.2.2.2.2.2.2.2.1 c11
    refine g_tabI (tgt := 138) X dX12_countOf_1 c11 ⟨⟨by decide, by decide⟩, rfl⟩ (by decide) ?_
    refine g_aload_n X dX12_countOf_138 rfl 0 rfl ?_
    refine fg_X12_107 X dX12_countOf_139 ?_
    exact g_iret X hQ dX12_countOf_142 h
  by_cases c12 : v1 = 12
  · have h := h.2.2.2.2.2.2.2.2.2.2.2.2.1 c12
    refine g_tabI (tgt := 143) X dX12_countOf_1 c12 ⟨⟨by decide, by decide⟩, rfl⟩ (by decide) ?_
    refine g_aload_n X dX12_countOf_143 rfl 0 rfl ?_
    refine fg_X12_174 X dX12_countOf_144 ?_
    exact g_iret X hQ dX12_countOf_147 h
  have h := h.2.2.2.2.2.2.2.2.2.2.2.2.2 c0 c1 c2 c3 c4 c5 c6 c7 c8 c9 c10 c11 c12
  refine g_tabO (tgt := 148) X dX12_countOf_1 (by have e0 := lv_neT (a := 0) c0 (by decide); have e1 := lv_neT (a := 1) c1 (by decide); have e2 := lv_neT (a := 2) c2 (by decide); have e3 := lv_neT (a := 3) c3 (by decide); have e4 := lv_neT (a := 4) c4 (by decide); have e5 := lv_neT (a := 5) c5 (by decide); have e6 := lv_neT (a := 6) c6 (by decide); have e7 := lv_neT (a := 7) c7 (by decide); have e8 := lv_neT (a := 8) c8 (by decide); have e9 := lv_neT (a := 9) c9 (by decide); have e10 := lv_neT (a := 10) c10 (by decide); have e11 := lv_neT (a := 11) c11 (by decide); have e12 := lv_neT (a := 12) c12 (by decide); omega) (by decide) ?_
  refine g_bipush (v := (-102)) X dX12_countOf_148 (by decide) ?_
  exact g_iret X hQ dX12_countOf_150 h
theorem cl_X12_338 {E : Ek} {x : MC} {cc : ByteArray} {nL hm pc : Nat} {M : Mem} {lv : List (Nat × Value)} {st : List Value} (X : Cx E x cc nL RX12 hm) {v1 : Int32} {Post : Int32 → Mem → Prop} (hr : 2 < hm) (hW : (st.map fun v => v.category).sum ≤ 8) (hd : decode cc pc = .ok (.invokevirtual 338, 3)) (h : wp_X12_countOf Post M v1) (kk : ∀ r M1, Post r M1 → G E x M1 (pc + 3) lv (.int r :: st)) : G E x M pc lv (.int v1 :: .ref (ad E 29) :: st) := k_I (fun hP hS hL => run_V X (w_X12_countOf E (xl x)  h) cw_X12_countOf m780 m781 m782 (⟨by decide, fun E f h => ⟨_, _, _, rfl, rfl, rfl⟩⟩ : OC 29 RX12) hr rfl hd hW hP hS hL) kk
theorem cw_X12_count : CW yX12_count cX12_count 2 (some .int) 1 := ⟨m783, m499, Nat.le_of_ble_eq_true rfl, by decide +kernel⟩
def wp_X12_count (Post : Int32 → Mem → Prop) (M : Mem) (v1 : Int32) : Prop :=
 wp_X12_countOf (fun r1 M2 =>
  Post r1 M2) M v1
theorem w_X12_count (E : Ek) (l : Launch) {v1 : Int32} {M : Mem} {Post : Int32 → Mem → Prop} (h : wp_X12_count Post M v1) : ctI E l yX12_count cX12_count 2 (some .int) 3 [.ref (ad E 29), .int v1] M Post := by
  refine ct_of (by decide) (Nat.le_of_ble_eq_true rfl) (fun x X hQ => ?_)
  change G E x M 0 [(0, .ref (ad E 29)), (1, .int v1)] []
  refine g_aload_n X dX12_count_0 rfl 0 rfl ?_
  refine g_iload_n X dX12_count_1 rfl 1 rfl ?_
  refine cl_X12_338 X (by decide) (Nat.le_of_ble_eq_true rfl) dX12_count_2 h (fun r1 M2 h => ?_)
  exact g_iret X hQ dX12_count_5 h
theorem cw_X12_say : CW yX12_say cX12_say 3 none 1 := ⟨m786, m499, Nat.le_of_ble_eq_true rfl, by decide +kernel⟩
def wp_X12_say (Post : Mem → Prop) (M : Mem) (v1 : Int64) : Prop :=
 ∀ M1 : Mem, M1 = wrH M (((31 : Int64) * (M.2)) + v1) →
 Post M1
theorem w_X12_say (E : Ek) (l : Launch) {v1 : Int64} {M : Mem} {Post : Mem → Prop} (h : wp_X12_say Post M v1) : ctV E l yX12_say cX12_say 3 none 1 [.ref (ad E 29), .long v1] M Post := by
  refine ct_of (by decide) (Nat.le_of_ble_eq_true rfl) (fun x X hQ => ?_)
  change G E x M 0 [(0, .ref (ad E 29)), (1, .long v1)] []
  refine g_aload_n X dX12_say_0 rfl 0 rfl ?_
  refine g_ldc2 X dX12_say_1 m784 ?_
  refine g_aload_n X dX12_say_4 rfl 0 rfl ?_
  refine fg_X12_343 X dX12_say_5 ?_
  refine g_lmul X dX12_say_8 ?_
  refine g_lload_n X dX12_say_9 rfl 1 rfl ?_
  refine g_ladd X dX12_say_10 ?_
  refine fp_X12_343 X dX12_say_11 h (fun M1 h => ?_)
  exact g_vret X hQ dX12_say_14 h
theorem cl_X12_347 {E : Ek} {x : MC} {cc : ByteArray} {nL hm pc : Nat} {M : Mem} {lv : List (Nat × Value)} {st : List Value} (X : Cx E x cc nL RX12 hm) {v1 : Int64} {Post : Mem → Prop} (hr : 1 < hm) (hW : (st.map fun v => v.category).sum ≤ 8) (hd : decode cc pc = .ok (.invokevirtual 347, 3)) (h : wp_X12_say Post M v1) (kk : ∀ M1, Post M1 → G E x M1 (pc + 3) lv st) : G E x M pc lv (.long v1 :: .ref (ad E 29) :: st) := k_V (fun hP hS hL => run_V X (w_X12_say E (xl x)  h) cw_X12_say m787 m788 m789 (⟨by decide, fun E f h => ⟨_, _, _, rfl, rfl, rfl⟩⟩ : OC 29 RX12) hr rfl hd hW hP hS hL) kk
theorem cw_X12_sayPerson : CW yX12_sayPerson cX12_sayPerson 3 none 1 := ⟨m790, m499, Nat.le_of_ble_eq_true rfl, by decide +kernel⟩
def wp_X12_sayPerson_b27 (Post : Mem → Prop) (v1 : Int32) (P2 : Mem → Int32 → Prop) (P27 : Mem → Int32 → Prop) (M : Mem) (v2 : Int32) : Prop :=
 ((rd M 29 4) ≤ v2 →
  wp_X12_nightOf (fun r6 M7 =>
   wp_X12_say (fun M9 =>
    wp_X12_nightOf (fun r10 M11 =>
     wp_X12_say (fun M13 =>
      wp_X12_nightOf (fun r14 M15 =>
       wp_X12_say (fun M17 =>
        Post M17) M15 (r14.toInt64)) M13 v1 2 11) M11 (r10.toInt64)) M9 v1 2 10) M7 (r6.toInt64)) M v1 2 0) ∧
 (¬ (rd M 29 4) ≤ v2 →
  wp_X12_wayOf (fun r18 M19 =>
   wp_X12_say (fun M21 =>
    wp_X12_wayOf (fun r22 M23 =>
     wp_X12_say (fun M25 =>
      ∀ x2_26 : Int32, x2_26 = v2 + 1 →
      P27 M25 x2_26) M23 (r22.toInt64)) M21 v1 v2 10) M19 (r18.toInt64)) M v1 v2 0)
def wp_X12_sayPerson_b2 (Post : Mem → Prop) (v1 : Int32) (P2 : Mem → Int32 → Prop) (P27 : Mem → Int32 → Prop) (M : Mem) (v2 : Int32) : Prop :=
 (9 ≤ v2 →
  P27 M 0) ∧
 (¬ 9 ≤ v2 →
  wp_X12_tellPerson (fun r1 M2 =>
   wp_X12_say (fun M4 =>
    ∀ x2_5 : Int32, x2_5 = v2 + 1 →
    P2 M4 x2_5) M2 (r1.toInt64)) M v1 v2)
def wp_X12_sayPerson (Post : Mem → Prop) (M : Mem) (v1 : Int32) : Prop :=
 ∀ (P2 : Mem → Int32 → Prop) (P27 : Mem → Int32 → Prop) ,
  (∀ (M : Mem) (v2 : Int32), wp_X12_sayPerson_b2 Post v1 P2 P27 M v2 → P2 M v2) →
  (∀ (M : Mem) (v2 : Int32), wp_X12_sayPerson_b27 Post v1 P2 P27 M v2 → P27 M v2) →
 P2 M 0
theorem k_X12_sayPerson_b27 {E : Ek} {x : MC} (X : Cx E x cX12_sayPerson 3 RX12 6) {Post : Mem → Prop} (hQ : QV E x Post none) {v1 : Int32} {M : Mem} {v2 : Int32} (h : wp_X12_sayPerson_b27 Post v1 (fun M v2 => G E x M 2 [(0, .ref (ad E 29)), (1, .int v1), (2, .int v2)] []) (fun M v2 => G E x M 27 [(0, .ref (ad E 29)), (1, .int v1), (2, .int v2)] []) M v2) : G E x M 27 [(0, .ref (ad E 29)), (1, .int v1), (2, .int v2)] [] := by
  refine g_iload_n X dX12_sayPerson_27 rfl 2 rfl ?_
  refine g_aload_n X dX12_sayPerson_28 rfl 0 rfl ?_
  refine fg_X12_153 X dX12_sayPerson_29 ?_
  refine g_icmpge (tgt := 66) X dX12_sayPerson_32 (by decide) h (fun h => ?_) (fun h => ?_)
  · refine g_aload_n X dX12_sayPerson_66 rfl 0 rfl ?_
    refine g_aload_n X dX12_sayPerson_67 rfl 0 rfl ?_
    refine g_iload_n X dX12_sayPerson_68 rfl 1 rfl ?_
    refine g_iconst (v := 2) X dX12_sayPerson_69 (by decide) ?_
    refine g_iconst (v := 0) X dX12_sayPerson_70 (by decide) ?_
    refine cl_X12_264 X (by decide) (Nat.le_of_ble_eq_true rfl) dX12_sayPerson_71 h (fun r6 M7 h => ?_)
    refine g_i2l X dX12_sayPerson_74 ?_
    refine cl_X12_347 X (by decide) (Nat.le_of_ble_eq_true rfl) dX12_sayPerson_75 h (fun M9 h => ?_)
    refine g_aload_n X dX12_sayPerson_78 rfl 0 rfl ?_
    refine g_aload_n X dX12_sayPerson_79 rfl 0 rfl ?_
    refine g_iload_n X dX12_sayPerson_80 rfl 1 rfl ?_
    refine g_iconst (v := 2) X dX12_sayPerson_81 (by decide) ?_
    refine g_bipush (v := 10) X dX12_sayPerson_82 (by decide) ?_
    refine cl_X12_264 X (by decide) (Nat.le_of_ble_eq_true rfl) dX12_sayPerson_84 h (fun r10 M11 h => ?_)
    refine g_i2l X dX12_sayPerson_87 ?_
    refine cl_X12_347 X (by decide) (Nat.le_of_ble_eq_true rfl) dX12_sayPerson_88 h (fun M13 h => ?_)
    refine g_aload_n X dX12_sayPerson_91 rfl 0 rfl ?_
    refine g_aload_n X dX12_sayPerson_92 rfl 0 rfl ?_
    refine g_iload_n X dX12_sayPerson_93 rfl 1 rfl ?_
    refine g_iconst (v := 2) X dX12_sayPerson_94 (by decide) ?_
    refine g_bipush (v := 11) X dX12_sayPerson_95 (by decide) ?_
    refine cl_X12_264 X (by decide) (Nat.le_of_ble_eq_true rfl) dX12_sayPerson_97 h (fun r14 M15 h => ?_)
    refine g_i2l X dX12_sayPerson_100 ?_
    refine cl_X12_347 X (by decide) (Nat.le_of_ble_eq_true rfl) dX12_sayPerson_101 h (fun M17 h => ?_)
    exact g_vret X hQ dX12_sayPerson_104 h
  · refine g_aload_n X dX12_sayPerson_35 rfl 0 rfl ?_
    refine g_aload_n X dX12_sayPerson_36 rfl 0 rfl ?_
    refine g_iload_n X dX12_sayPerson_37 rfl 1 rfl ?_
    refine g_iload_n X dX12_sayPerson_38 rfl 2 rfl ?_
    refine g_iconst (v := 0) X dX12_sayPerson_39 (by decide) ?_
    refine cl_X12_253 X (by decide) (Nat.le_of_ble_eq_true rfl) dX12_sayPerson_40 h (fun r18 M19 h => ?_)
    refine g_i2l X dX12_sayPerson_43 ?_
    refine cl_X12_347 X (by decide) (Nat.le_of_ble_eq_true rfl) dX12_sayPerson_44 h (fun M21 h => ?_)
    refine g_aload_n X dX12_sayPerson_47 rfl 0 rfl ?_
    refine g_aload_n X dX12_sayPerson_48 rfl 0 rfl ?_
    refine g_iload_n X dX12_sayPerson_49 rfl 1 rfl ?_
    refine g_iload_n X dX12_sayPerson_50 rfl 2 rfl ?_
    refine g_bipush (v := 10) X dX12_sayPerson_51 (by decide) ?_
    refine cl_X12_253 X (by decide) (Nat.le_of_ble_eq_true rfl) dX12_sayPerson_53 h (fun r22 M23 h => ?_)
    refine g_i2l X dX12_sayPerson_56 ?_
    refine cl_X12_347 X (by decide) (Nat.le_of_ble_eq_true rfl) dX12_sayPerson_57 h (fun M25 h => ?_)
    refine g_iinc (w := 1) X dX12_sayPerson_60 2 rfl (by decide) (Nat.le_of_ble_eq_true rfl) rfl (fun x2_26 => [(0, .ref (ad E 29)), (1, .int v1), (2, .int x2_26)]) (fun _ => rfl) h (fun x2_26 h => ?_)
    refine g_goto (tgt := 27) X dX12_sayPerson_63 (by decide) ?_
    exact h
theorem k_X12_sayPerson_b2 {E : Ek} {x : MC} (X : Cx E x cX12_sayPerson 3 RX12 6) {Post : Mem → Prop} (hQ : QV E x Post none) {v1 : Int32} {M : Mem} {v2 : Int32} (h : wp_X12_sayPerson_b2 Post v1 (fun M v2 => G E x M 2 [(0, .ref (ad E 29)), (1, .int v1), (2, .int v2)] []) (fun M v2 => G E x M 27 [(0, .ref (ad E 29)), (1, .int v1), (2, .int v2)] []) M v2) : G E x M 2 [(0, .ref (ad E 29)), (1, .int v1), (2, .int v2)] [] := by
  refine g_iload_n X dX12_sayPerson_2 rfl 2 rfl ?_
  refine g_bipush (v := 9) X dX12_sayPerson_3 (by decide) ?_
  refine g_icmpge (tgt := 25) X dX12_sayPerson_5 (by decide) h (fun h => ?_) (fun h => ?_)
  · refine g_iconst (v := 0) X dX12_sayPerson_25 (by decide) ?_
    refine g_istore_n (lv' := [(0, .ref (ad E 29)), (1, .int v1), (2, .int 0)]) X dX12_sayPerson_26 rfl (Nat.le_of_ble_eq_true rfl) rfl rfl ?_
    exact h
  · refine g_aload_n X dX12_sayPerson_8 rfl 0 rfl ?_
    refine g_aload_n X dX12_sayPerson_9 rfl 0 rfl ?_
    refine g_iload_n X dX12_sayPerson_10 rfl 1 rfl ?_
    refine g_iload_n X dX12_sayPerson_11 rfl 2 rfl ?_
    refine cl_X12_218 X (by decide) (Nat.le_of_ble_eq_true rfl) dX12_sayPerson_12 h (fun r1 M2 h => ?_)
    refine g_i2l X dX12_sayPerson_15 ?_
    refine cl_X12_347 X (by decide) (Nat.le_of_ble_eq_true rfl) dX12_sayPerson_16 h (fun M4 h => ?_)
    refine g_iinc (w := 1) X dX12_sayPerson_19 2 rfl (by decide) (Nat.le_of_ble_eq_true rfl) rfl (fun x2_5 => [(0, .ref (ad E 29)), (1, .int v1), (2, .int x2_5)]) (fun _ => rfl) h (fun x2_5 h => ?_)
    refine g_goto (tgt := 2) X dX12_sayPerson_22 (by decide) ?_
    exact h
theorem w_X12_sayPerson (E : Ek) (l : Launch) {v1 : Int32} {M : Mem} {Post : Mem → Prop} (h : wp_X12_sayPerson Post M v1) : ctV E l yX12_sayPerson cX12_sayPerson 3 none 6 [.ref (ad E 29), .int v1] M Post := by
  refine ct_of (by decide) (Nat.le_of_ble_eq_true rfl) (fun x X hQ => ?_)
  have h := h (fun M v2 => G E x M 2 [(0, .ref (ad E 29)), (1, .int v1), (2, .int v2)] []) (fun M v2 => G E x M 27 [(0, .ref (ad E 29)), (1, .int v1), (2, .int v2)] []) (fun M v2 h => k_X12_sayPerson_b2 X hQ  h) (fun M v2 h => k_X12_sayPerson_b27 X hQ  h)
  change G E x M 0 [(0, .ref (ad E 29)), (1, .int v1)] []
  refine g_iconst (v := 0) X dX12_sayPerson_0 (by decide) ?_
  refine g_istore_n (lv' := [(0, .ref (ad E 29)), (1, .int v1), (2, .int 0)]) X dX12_sayPerson_1 rfl (Nat.le_of_ble_eq_true rfl) rfl rfl ?_
  exact h
theorem cl_X12_353 {E : Ek} {x : MC} {cc : ByteArray} {nL hm pc : Nat} {M : Mem} {lv : List (Nat × Value)} {st : List Value} (X : Cx E x cc nL RX12 hm) {v1 : Int32} {Post : Mem → Prop} (hr : 6 < hm) (hW : (st.map fun v => v.category).sum ≤ 8) (hd : decode cc pc = .ok (.invokevirtual 353, 3)) (h : wp_X12_sayPerson Post M v1) (kk : ∀ M1, Post M1 → G E x M1 (pc + 3) lv st) : G E x M pc lv (.int v1 :: .ref (ad E 29) :: st) := k_V (fun hP hS hL => run_V X (w_X12_sayPerson E (xl x)  h) cw_X12_sayPerson m796 m797 m798 (⟨by decide, fun E f h => ⟨_, _, _, rfl, rfl, rfl⟩⟩ : OC 29 RX12) hr rfl hd hW hP hS hL) kk
theorem cw_X12_sayThings : CW yX12_sayThings cX12_sayThings 3 none 0 := ⟨m791, m499, Nat.le_of_ble_eq_true rfl, by decide +kernel⟩
def wp_X12_sayThings_b83 (Post : Mem → Prop) (P2 : Mem → Int32 → Prop) (P12 : Mem → Int32 → Int32 → Prop) (P42 : Mem → Int32 → Prop) (P52 : Mem → Int32 → Int32 → Prop) (P83 : Mem → Int32 → Prop) (M : Mem) (v1 : Int32) : Prop :=
 ((rd M 29 4) ≤ v1 →
  Post M) ∧
 (¬ (rd M 29 4) ≤ v1 →
  wp_X12_cancelOf (fun r13 M14 =>
   wp_X12_say (fun M16 =>
    ∀ x1_17 : Int32, x1_17 = v1 + 1 →
    P83 M16 x1_17) M14 (r13.toInt64)) M v1 0)
def wp_X12_sayThings_b52 (Post : Mem → Prop) (P2 : Mem → Int32 → Prop) (P12 : Mem → Int32 → Int32 → Prop) (P42 : Mem → Int32 → Prop) (P52 : Mem → Int32 → Int32 → Prop) (P83 : Mem → Int32 → Prop) (M : Mem) (v1 : Int32) (v2 : Int32) : Prop :=
 (6 ≤ v2 →
  ∀ x1_7 : Int32, x1_7 = v1 + 1 →
  P42 M x1_7) ∧
 (¬ 6 ≤ v2 →
  wp_X12_tellDebt (fun r8 M9 =>
   wp_X12_say (fun M11 =>
    ∀ x2_12 : Int32, x2_12 = v2 + 1 →
    P52 M11 v1 x2_12) M9 (r8.toInt64)) M v1 v2)
def wp_X12_sayThings_b42 (Post : Mem → Prop) (P2 : Mem → Int32 → Prop) (P12 : Mem → Int32 → Int32 → Prop) (P42 : Mem → Int32 → Prop) (P52 : Mem → Int32 → Int32 → Prop) (P83 : Mem → Int32 → Prop) (M : Mem) (v1 : Int32) : Prop :=
 ((rd M 29 7) ≤ v1 →
  P83 M 0) ∧
 (¬ (rd M 29 7) ≤ v1 →
  P52 M v1 0)
def wp_X12_sayThings_b12 (Post : Mem → Prop) (P2 : Mem → Int32 → Prop) (P12 : Mem → Int32 → Int32 → Prop) (P42 : Mem → Int32 → Prop) (P52 : Mem → Int32 → Int32 → Prop) (P83 : Mem → Int32 → Prop) (M : Mem) (v1 : Int32) (v2 : Int32) : Prop :=
 (3 ≤ v2 →
  ∀ x1_1 : Int32, x1_1 = v1 + 1 →
  P2 M x1_1) ∧
 (¬ 3 ≤ v2 →
  wp_X12_tellDoor (fun r2 M3 =>
   wp_X12_say (fun M5 =>
    ∀ x2_6 : Int32, x2_6 = v2 + 1 →
    P12 M5 v1 x2_6) M3 (r2.toInt64)) M v1 v2)
def wp_X12_sayThings_b2 (Post : Mem → Prop) (P2 : Mem → Int32 → Prop) (P12 : Mem → Int32 → Int32 → Prop) (P42 : Mem → Int32 → Prop) (P52 : Mem → Int32 → Int32 → Prop) (P83 : Mem → Int32 → Prop) (M : Mem) (v1 : Int32) : Prop :=
 ((rd M 29 5) ≤ v1 →
  P42 M 0) ∧
 (¬ (rd M 29 5) ≤ v1 →
  P12 M v1 0)
def wp_X12_sayThings (Post : Mem → Prop) (M : Mem) : Prop :=
 ∀ (P2 : Mem → Int32 → Prop) (P12 : Mem → Int32 → Int32 → Prop) (P42 : Mem → Int32 → Prop) (P52 : Mem → Int32 → Int32 → Prop) (P83 : Mem → Int32 → Prop) ,
  (∀ (M : Mem) (v1 : Int32), wp_X12_sayThings_b2 Post P2 P12 P42 P52 P83 M v1 → P2 M v1) →
  (∀ (M : Mem) (v1 : Int32) (v2 : Int32), wp_X12_sayThings_b12 Post P2 P12 P42 P52 P83 M v1 v2 → P12 M v1 v2) →
  (∀ (M : Mem) (v1 : Int32), wp_X12_sayThings_b42 Post P2 P12 P42 P52 P83 M v1 → P42 M v1) →
  (∀ (M : Mem) (v1 : Int32) (v2 : Int32), wp_X12_sayThings_b52 Post P2 P12 P42 P52 P83 M v1 v2 → P52 M v1 v2) →
  (∀ (M : Mem) (v1 : Int32), wp_X12_sayThings_b83 Post P2 P12 P42 P52 P83 M v1 → P83 M v1) →
 P2 M 0
theorem k_X12_sayThings_b83 {E : Ek} {x : MC} (X : Cx E x cX12_sayThings 3 RX12 5) {Post : Mem → Prop} (hQ : QV E x Post none) {M : Mem} {v1 : Int32} (h : wp_X12_sayThings_b83 Post (fun M v1 => G E x M 2 [(0, .ref (ad E 29)), (1, .int v1)] []) (fun M v1 v2 => G E x M 12 [(0, .ref (ad E 29)), (1, .int v1), (2, .int v2)] []) (fun M v1 => G E x M 42 [(0, .ref (ad E 29)), (1, .int v1)] []) (fun M v1 v2 => G E x M 52 [(0, .ref (ad E 29)), (1, .int v1), (2, .int v2)] []) (fun M v1 => G E x M 83 [(0, .ref (ad E 29)), (1, .int v1)] []) M v1) : G E x M 83 [(0, .ref (ad E 29)), (1, .int v1)] [] := by
  refine g_iload_n X dX12_sayThings_83 rfl 1 rfl ?_
  refine g_aload_n X dX12_sayThings_84 rfl 0 rfl ?_
  refine fg_X12_153 X dX12_sayThings_85 ?_
  refine g_icmpge (tgt := 108) X dX12_sayThings_88 (by decide) h (fun h => ?_) (fun h => ?_)
  · exact g_vret X hQ dX12_sayThings_108 h
  · refine g_aload_n X dX12_sayThings_91 rfl 0 rfl ?_
    refine g_aload_n X dX12_sayThings_92 rfl 0 rfl ?_
    refine g_iload_n X dX12_sayThings_93 rfl 1 rfl ?_
    refine g_iconst (v := 0) X dX12_sayThings_94 (by decide) ?_
    refine cl_X12_280 X (by decide) (Nat.le_of_ble_eq_true rfl) dX12_sayThings_95 h (fun r13 M14 h => ?_)
    refine g_i2l X dX12_sayThings_98 ?_
    refine cl_X12_347 X (by decide) (Nat.le_of_ble_eq_true rfl) dX12_sayThings_99 h (fun M16 h => ?_)
    refine g_iinc (w := 1) X dX12_sayThings_102 1 rfl (by decide) (Nat.le_of_ble_eq_true rfl) rfl (fun x1_17 => [(0, .ref (ad E 29)), (1, .int x1_17)]) (fun _ => rfl) h (fun x1_17 h => ?_)
    refine g_goto (tgt := 83) X dX12_sayThings_105 (by decide) ?_
    exact h
theorem k_X12_sayThings_b52 {E : Ek} {x : MC} (X : Cx E x cX12_sayThings 3 RX12 5) {Post : Mem → Prop} (hQ : QV E x Post none) {M : Mem} {v1 : Int32} {v2 : Int32} (h : wp_X12_sayThings_b52 Post (fun M v1 => G E x M 2 [(0, .ref (ad E 29)), (1, .int v1)] []) (fun M v1 v2 => G E x M 12 [(0, .ref (ad E 29)), (1, .int v1), (2, .int v2)] []) (fun M v1 => G E x M 42 [(0, .ref (ad E 29)), (1, .int v1)] []) (fun M v1 v2 => G E x M 52 [(0, .ref (ad E 29)), (1, .int v1), (2, .int v2)] []) (fun M v1 => G E x M 83 [(0, .ref (ad E 29)), (1, .int v1)] []) M v1 v2) : G E x M 52 [(0, .ref (ad E 29)), (1, .int v1), (2, .int v2)] [] := by
  refine g_iload_n X dX12_sayThings_52 rfl 2 rfl ?_
  refine g_bipush (v := 6) X dX12_sayThings_53 (by decide) ?_
  refine g_icmpge (tgt := 75) X dX12_sayThings_55 (by decide) h (fun h => ?_) (fun h => ?_)
  · refine g_iinc (w := 1) X dX12_sayThings_75 1 rfl (by decide) (Nat.le_of_ble_eq_true rfl) rfl (fun x1_7 => [(0, .ref (ad E 29)), (1, .int x1_7), (2, .int v2)]) (fun _ => rfl) h (fun x1_7 h => ?_)
    refine g_goto (tgt := 42) X dX12_sayThings_78 (by decide) ?_
    exact g_sub [0, 1] rfl h
  · refine g_aload_n X dX12_sayThings_58 rfl 0 rfl ?_
    refine g_aload_n X dX12_sayThings_59 rfl 0 rfl ?_
    refine g_iload_n X dX12_sayThings_60 rfl 1 rfl ?_
    refine g_iload_n X dX12_sayThings_61 rfl 2 rfl ?_
    refine cl_X12_233 X (by decide) (Nat.le_of_ble_eq_true rfl) dX12_sayThings_62 h (fun r8 M9 h => ?_)
    refine g_i2l X dX12_sayThings_65 ?_
    refine cl_X12_347 X (by decide) (Nat.le_of_ble_eq_true rfl) dX12_sayThings_66 h (fun M11 h => ?_)
    refine g_iinc (w := 1) X dX12_sayThings_69 2 rfl (by decide) (Nat.le_of_ble_eq_true rfl) rfl (fun x2_12 => [(0, .ref (ad E 29)), (1, .int v1), (2, .int x2_12)]) (fun _ => rfl) h (fun x2_12 h => ?_)
    refine g_goto (tgt := 52) X dX12_sayThings_72 (by decide) ?_
    exact h
theorem k_X12_sayThings_b42 {E : Ek} {x : MC} (X : Cx E x cX12_sayThings 3 RX12 5) {Post : Mem → Prop} (hQ : QV E x Post none) {M : Mem} {v1 : Int32} (h : wp_X12_sayThings_b42 Post (fun M v1 => G E x M 2 [(0, .ref (ad E 29)), (1, .int v1)] []) (fun M v1 v2 => G E x M 12 [(0, .ref (ad E 29)), (1, .int v1), (2, .int v2)] []) (fun M v1 => G E x M 42 [(0, .ref (ad E 29)), (1, .int v1)] []) (fun M v1 v2 => G E x M 52 [(0, .ref (ad E 29)), (1, .int v1), (2, .int v2)] []) (fun M v1 => G E x M 83 [(0, .ref (ad E 29)), (1, .int v1)] []) M v1) : G E x M 42 [(0, .ref (ad E 29)), (1, .int v1)] [] := by
  refine g_iload_n X dX12_sayThings_42 rfl 1 rfl ?_
  refine g_aload_n X dX12_sayThings_43 rfl 0 rfl ?_
  refine fg_X12_162 X dX12_sayThings_44 ?_
  refine g_icmpge (tgt := 81) X dX12_sayThings_47 (by decide) h (fun h => ?_) (fun h => ?_)
  · refine g_iconst (v := 0) X dX12_sayThings_81 (by decide) ?_
    refine g_istore_n (lv' := [(0, .ref (ad E 29)), (1, .int 0)]) X dX12_sayThings_82 rfl (Nat.le_of_ble_eq_true rfl) rfl rfl ?_
    exact h
  · refine g_iconst (v := 0) X dX12_sayThings_50 (by decide) ?_
    refine g_istore_n (lv' := [(0, .ref (ad E 29)), (1, .int v1), (2, .int 0)]) X dX12_sayThings_51 rfl (Nat.le_of_ble_eq_true rfl) rfl rfl ?_
    exact h
theorem k_X12_sayThings_b12 {E : Ek} {x : MC} (X : Cx E x cX12_sayThings 3 RX12 5) {Post : Mem → Prop} (hQ : QV E x Post none) {M : Mem} {v1 : Int32} {v2 : Int32} (h : wp_X12_sayThings_b12 Post (fun M v1 => G E x M 2 [(0, .ref (ad E 29)), (1, .int v1)] []) (fun M v1 v2 => G E x M 12 [(0, .ref (ad E 29)), (1, .int v1), (2, .int v2)] []) (fun M v1 => G E x M 42 [(0, .ref (ad E 29)), (1, .int v1)] []) (fun M v1 v2 => G E x M 52 [(0, .ref (ad E 29)), (1, .int v1), (2, .int v2)] []) (fun M v1 => G E x M 83 [(0, .ref (ad E 29)), (1, .int v1)] []) M v1 v2) : G E x M 12 [(0, .ref (ad E 29)), (1, .int v1), (2, .int v2)] [] := by
  refine g_iload_n X dX12_sayThings_12 rfl 2 rfl ?_
  refine g_iconst (v := 3) X dX12_sayThings_13 (by decide) ?_
  refine g_icmpge (tgt := 34) X dX12_sayThings_14 (by decide) h (fun h => ?_) (fun h => ?_)
  · refine g_iinc (w := 1) X dX12_sayThings_34 1 rfl (by decide) (Nat.le_of_ble_eq_true rfl) rfl (fun x1_1 => [(0, .ref (ad E 29)), (1, .int x1_1), (2, .int v2)]) (fun _ => rfl) h (fun x1_1 h => ?_)
    refine g_goto (tgt := 2) X dX12_sayThings_37 (by decide) ?_
    exact g_sub [0, 1] rfl h
  · refine g_aload_n X dX12_sayThings_17 rfl 0 rfl ?_
    refine g_aload_n X dX12_sayThings_18 rfl 0 rfl ?_
    refine g_iload_n X dX12_sayThings_19 rfl 1 rfl ?_
    refine g_iload_n X dX12_sayThings_20 rfl 2 rfl ?_
    refine cl_X12_227 X (by decide) (Nat.le_of_ble_eq_true rfl) dX12_sayThings_21 h (fun r2 M3 h => ?_)
    refine g_i2l X dX12_sayThings_24 ?_
    refine cl_X12_347 X (by decide) (Nat.le_of_ble_eq_true rfl) dX12_sayThings_25 h (fun M5 h => ?_)
    refine g_iinc (w := 1) X dX12_sayThings_28 2 rfl (by decide) (Nat.le_of_ble_eq_true rfl) rfl (fun x2_6 => [(0, .ref (ad E 29)), (1, .int v1), (2, .int x2_6)]) (fun _ => rfl) h (fun x2_6 h => ?_)
    refine g_goto (tgt := 12) X dX12_sayThings_31 (by decide) ?_
    exact h
theorem k_X12_sayThings_b2 {E : Ek} {x : MC} (X : Cx E x cX12_sayThings 3 RX12 5) {Post : Mem → Prop} (hQ : QV E x Post none) {M : Mem} {v1 : Int32} (h : wp_X12_sayThings_b2 Post (fun M v1 => G E x M 2 [(0, .ref (ad E 29)), (1, .int v1)] []) (fun M v1 v2 => G E x M 12 [(0, .ref (ad E 29)), (1, .int v1), (2, .int v2)] []) (fun M v1 => G E x M 42 [(0, .ref (ad E 29)), (1, .int v1)] []) (fun M v1 v2 => G E x M 52 [(0, .ref (ad E 29)), (1, .int v1), (2, .int v2)] []) (fun M v1 => G E x M 83 [(0, .ref (ad E 29)), (1, .int v1)] []) M v1) : G E x M 2 [(0, .ref (ad E 29)), (1, .int v1)] [] := by
  refine g_iload_n X dX12_sayThings_2 rfl 1 rfl ?_
  refine g_aload_n X dX12_sayThings_3 rfl 0 rfl ?_
  refine fg_X12_156 X dX12_sayThings_4 ?_
  refine g_icmpge (tgt := 40) X dX12_sayThings_7 (by decide) h (fun h => ?_) (fun h => ?_)
  · refine g_iconst (v := 0) X dX12_sayThings_40 (by decide) ?_
    refine g_istore_n (lv' := [(0, .ref (ad E 29)), (1, .int 0)]) X dX12_sayThings_41 rfl (Nat.le_of_ble_eq_true rfl) rfl rfl ?_
    exact h
  · refine g_iconst (v := 0) X dX12_sayThings_10 (by decide) ?_
    refine g_istore_n (lv' := [(0, .ref (ad E 29)), (1, .int v1), (2, .int 0)]) X dX12_sayThings_11 rfl (Nat.le_of_ble_eq_true rfl) rfl rfl ?_
    exact h
theorem w_X12_sayThings (E : Ek) (l : Launch) {M : Mem} {Post : Mem → Prop} (h : wp_X12_sayThings Post M ) : ctV E l yX12_sayThings cX12_sayThings 3 none 5 [.ref (ad E 29)] M Post := by
  refine ct_of (by decide) (Nat.le_of_ble_eq_true rfl) (fun x X hQ => ?_)
  have h := h (fun M v1 => G E x M 2 [(0, .ref (ad E 29)), (1, .int v1)] []) (fun M v1 v2 => G E x M 12 [(0, .ref (ad E 29)), (1, .int v1), (2, .int v2)] []) (fun M v1 => G E x M 42 [(0, .ref (ad E 29)), (1, .int v1)] []) (fun M v1 v2 => G E x M 52 [(0, .ref (ad E 29)), (1, .int v1), (2, .int v2)] []) (fun M v1 => G E x M 83 [(0, .ref (ad E 29)), (1, .int v1)] []) (fun M v1 h => k_X12_sayThings_b2 X hQ  h) (fun M v1 v2 h => k_X12_sayThings_b12 X hQ  h) (fun M v1 h => k_X12_sayThings_b42 X hQ  h) (fun M v1 v2 h => k_X12_sayThings_b52 X hQ  h) (fun M v1 h => k_X12_sayThings_b83 X hQ  h)
  change G E x M 0 [(0, .ref (ad E 29))] []
  refine g_iconst (v := 0) X dX12_sayThings_0 (by decide) ?_
  refine g_istore_n (lv' := [(0, .ref (ad E 29)), (1, .int 0)]) X dX12_sayThings_1 rfl (Nat.le_of_ble_eq_true rfl) rfl rfl ?_
  exact h
theorem cl_X12_356 {E : Ek} {x : MC} {cc : ByteArray} {nL hm pc : Nat} {M : Mem} {lv : List (Nat × Value)} {st : List Value} (X : Cx E x cc nL RX12 hm) {Post : Mem → Prop} (hr : 5 < hm) (hW : (st.map fun v => v.category).sum ≤ 8) (hd : decode cc pc = .ok (.invokevirtual 356, 3)) (h : wp_X12_sayThings Post M ) (kk : ∀ M1, Post M1 → G E x M1 (pc + 3) lv st) : G E x M pc lv (.ref (ad E 29) :: st) := k_V (fun hP hS hL => run_V X (w_X12_sayThings E (xl x)  h) cw_X12_sayThings m793 m794 m795 (⟨by decide, fun E f h => ⟨_, _, _, rfl, rfl, rfl⟩⟩ : OC 29 RX12) hr rfl hd hW hP hS hL) kk
theorem cw_X12_digest : CW yX12_digest cX12_digest 2 (some .long) 0 := ⟨m799, m499, Nat.le_of_ble_eq_true rfl, by decide +kernel⟩
def wp_X12_digest_b103 (Post : Int64 → Mem → Prop) (P9 : Mem → Int32 → Prop) (P76 : Mem → Int32 → Prop) (P103 : Mem → Int32 → Prop) (M : Mem) (v1 : Int32) : Prop :=
 (13 ≤ v1 →
  Post (M.2) M) ∧
 (¬ 13 ≤ v1 →
  wp_X12_countOf (fun r24 M25 =>
   wp_X12_say (fun M27 =>
    ∀ x1_28 : Int32, x1_28 = v1 + 1 →
    P103 M27 x1_28) M25 (r24.toInt64)) M v1)
def wp_X12_digest_b76 (Post : Int64 → Mem → Prop) (P9 : Mem → Int32 → Prop) (P76 : Mem → Int32 → Prop) (P103 : Mem → Int32 → Prop) (M : Mem) (v1 : Int32) : Prop :=
 ((rd M 29 1) ≤ v1 →
  P103 M 0) ∧
 (¬ (rd M 29 1) ≤ v1 →
  vp_in v1 64 ∧
  wp_X12_say (fun M22 =>
   ∀ x1_23 : Int32, x1_23 = v1 + 1 →
   P76 M22 x1_23) M ((rd M 30 v1.toNatClampNeg).toInt64))
def wp_X12_digest_b9 (Post : Int64 → Mem → Prop) (P9 : Mem → Int32 → Prop) (P76 : Mem → Int32 → Prop) (P103 : Mem → Int32 → Prop) (M : Mem) (v1 : Int32) : Prop :=
 ((rd M 29 6) ≤ v1 →
  wp_X12_sayThings (fun M3 =>
   wp_X12_lacks (fun r4 M5 =>
    (¬ r4 = 0 →
     P76 M5 0) ∧
    (r4 = 0 →
     wp_X12_soundOf (fun r6 M7 =>
      wp_X12_say (fun M9 =>
       wp_X12_metOf (fun r10 M11 =>
        wp_X12_say (fun M13 =>
         wp_X12_metOf (fun r14 M15 =>
          wp_X12_say (fun M17 =>
           P76 M17 0) M15 (r14.toInt64)) M13 0 1 2 1) M11 (r10.toInt64)) M9 0 1 2 0) M7 (r6.toInt64)) M5 )) M3 ) M ) ∧
 (¬ (rd M 29 6) ≤ v1 →
  wp_X12_sayPerson (fun M19 =>
   ∀ x1_20 : Int32, x1_20 = v1 + 1 →
   P9 M19 x1_20) M v1)
def wp_X12_digest (Post : Int64 → Mem → Prop) (M : Mem) : Prop :=
 ∀ (P9 : Mem → Int32 → Prop) (P76 : Mem → Int32 → Prop) (P103 : Mem → Int32 → Prop) ,
  (∀ (M : Mem) (v1 : Int32), wp_X12_digest_b9 Post P9 P76 P103 M v1 → P9 M v1) →
  (∀ (M : Mem) (v1 : Int32), wp_X12_digest_b76 Post P9 P76 P103 M v1 → P76 M v1) →
  (∀ (M : Mem) (v1 : Int32), wp_X12_digest_b103 Post P9 P76 P103 M v1 → P103 M v1) →
 ∀ M1 : Mem, M1 = wrH M (1223 : Int64) →
 P9 M1 0
theorem k_X12_digest_b103 {E : Ek} {x : MC} (X : Cx E x cX12_digest 2 RX12 7) {Post : Int64 → Mem → Prop} (hQ : QL E x Post (some .long)) {M : Mem} {v1 : Int32} (h : wp_X12_digest_b103 Post (fun M v1 => G E x M 9 [(0, .ref (ad E 29)), (1, .int v1)] []) (fun M v1 => G E x M 76 [(0, .ref (ad E 29)), (1, .int v1)] []) (fun M v1 => G E x M 103 [(0, .ref (ad E 29)), (1, .int v1)] []) M v1) : G E x M 103 [(0, .ref (ad E 29)), (1, .int v1)] [] := by
  refine g_iload_n X dX12_digest_103 rfl 1 rfl ?_
  refine g_bipush (v := 13) X dX12_digest_104 (by decide) ?_
  refine g_icmpge (tgt := 125) X dX12_digest_106 (by decide) h (fun h => ?_) (fun h => ?_)
  · refine g_aload_n X dX12_digest_125 rfl 0 rfl ?_
    refine fg_X12_343 X dX12_digest_126 ?_
    exact g_lret X hQ dX12_digest_129 h
  · refine g_aload_n X dX12_digest_109 rfl 0 rfl ?_
    refine g_aload_n X dX12_digest_110 rfl 0 rfl ?_
    refine g_iload_n X dX12_digest_111 rfl 1 rfl ?_
    refine cl_X12_338 X (by decide) (Nat.le_of_ble_eq_true rfl) dX12_digest_112 h (fun r24 M25 h => ?_)
    refine g_i2l X dX12_digest_115 ?_
    refine cl_X12_347 X (by decide) (Nat.le_of_ble_eq_true rfl) dX12_digest_116 h (fun M27 h => ?_)
    refine g_iinc (w := 1) X dX12_digest_119 1 rfl (by decide) (Nat.le_of_ble_eq_true rfl) rfl (fun x1_28 => [(0, .ref (ad E 29)), (1, .int x1_28)]) (fun _ => rfl) h (fun x1_28 h => ?_)
    refine g_goto (tgt := 103) X dX12_digest_122 (by decide) ?_
    exact h
theorem k_X12_digest_b76 {E : Ek} {x : MC} (X : Cx E x cX12_digest 2 RX12 7) {Post : Int64 → Mem → Prop} (hQ : QL E x Post (some .long)) {M : Mem} {v1 : Int32} (h : wp_X12_digest_b76 Post (fun M v1 => G E x M 9 [(0, .ref (ad E 29)), (1, .int v1)] []) (fun M v1 => G E x M 76 [(0, .ref (ad E 29)), (1, .int v1)] []) (fun M v1 => G E x M 103 [(0, .ref (ad E 29)), (1, .int v1)] []) M v1) : G E x M 76 [(0, .ref (ad E 29)), (1, .int v1)] [] := by
  refine g_iload_n X dX12_digest_76 rfl 1 rfl ?_
  refine g_aload_n X dX12_digest_77 rfl 0 rfl ?_
  refine fg_X12_107 X dX12_digest_78 ?_
  refine g_icmpge (tgt := 101) X dX12_digest_81 (by decide) h (fun h => ?_) (fun h => ?_)
  · refine g_iconst (v := 0) X dX12_digest_101 (by decide) ?_
    refine g_istore_n (lv' := [(0, .ref (ad E 29)), (1, .int 0)]) X dX12_digest_102 rfl (Nat.le_of_ble_eq_true rfl) rfl rfl ?_
    exact h
  · refine g_aload_n X dX12_digest_84 rfl 0 rfl ?_
    refine g_aload_n X dX12_digest_85 rfl 0 rfl ?_
    refine fg_X12_7 X dX12_digest_86 ?_
    refine g_iload_n X dX12_digest_89 rfl 1 rfl ?_
    refine g_iald X ia_30 dX12_digest_90 h (fun h => ?_)
    refine g_i2l X dX12_digest_91 ?_
    refine cl_X12_347 X (by decide) (Nat.le_of_ble_eq_true rfl) dX12_digest_92 h (fun M22 h => ?_)
    refine g_iinc (w := 1) X dX12_digest_95 1 rfl (by decide) (Nat.le_of_ble_eq_true rfl) rfl (fun x1_23 => [(0, .ref (ad E 29)), (1, .int x1_23)]) (fun _ => rfl) h (fun x1_23 h => ?_)
    refine g_goto (tgt := 76) X dX12_digest_98 (by decide) ?_
    exact h
theorem k_X12_digest_b9 {E : Ek} {x : MC} (X : Cx E x cX12_digest 2 RX12 7) {Post : Int64 → Mem → Prop} (hQ : QL E x Post (some .long)) {M : Mem} {v1 : Int32} (h : wp_X12_digest_b9 Post (fun M v1 => G E x M 9 [(0, .ref (ad E 29)), (1, .int v1)] []) (fun M v1 => G E x M 76 [(0, .ref (ad E 29)), (1, .int v1)] []) (fun M v1 => G E x M 103 [(0, .ref (ad E 29)), (1, .int v1)] []) M v1) : G E x M 9 [(0, .ref (ad E 29)), (1, .int v1)] [] := by
  refine g_iload_n X dX12_digest_9 rfl 1 rfl ?_
  refine g_aload_n X dX12_digest_10 rfl 0 rfl ?_
  refine fg_X12_159 X dX12_digest_11 ?_
  refine g_icmpge (tgt := 28) X dX12_digest_14 (by decide) h (fun h => ?_) (fun h => ?_)
  · refine g_aload_n X dX12_digest_28 rfl 0 rfl ?_
    refine cl_X12_356 X (by decide) (Nat.le_of_ble_eq_true rfl) dX12_digest_29 h (fun M3 h => ?_)
    refine g_aload_n X dX12_digest_32 rfl 0 rfl ?_
    refine cl_X12_286 X (by decide) (Nat.le_of_ble_eq_true rfl) dX12_digest_33 h (fun r4 M5 h => ?_)
    refine g_ifne (tgt := 74) X dX12_digest_36 (by decide) h (fun h => ?_) (fun h => ?_)
    · refine g_iconst (v := 0) X dX12_digest_74 (by decide) ?_
      refine g_istore_n (lv' := [(0, .ref (ad E 29)), (1, .int 0)]) X dX12_digest_75 rfl (Nat.le_of_ble_eq_true rfl) rfl rfl ?_
      exact h
    · refine g_aload_n X dX12_digest_39 rfl 0 rfl ?_
      refine g_aload_n X dX12_digest_40 rfl 0 rfl ?_
      refine cl_X12_290 X (by decide) (Nat.le_of_ble_eq_true rfl) dX12_digest_41 h (fun r6 M7 h => ?_)
      refine g_i2l X dX12_digest_44 ?_
      refine cl_X12_347 X (by decide) (Nat.le_of_ble_eq_true rfl) dX12_digest_45 h (fun M9 h => ?_)
      refine g_aload_n X dX12_digest_48 rfl 0 rfl ?_
      refine g_aload_n X dX12_digest_49 rfl 0 rfl ?_
      refine g_iconst (v := 0) X dX12_digest_50 (by decide) ?_
      refine g_iconst (v := 1) X dX12_digest_51 (by decide) ?_
      refine g_iconst (v := 2) X dX12_digest_52 (by decide) ?_
      refine g_iconst (v := 0) X dX12_digest_53 (by decide) ?_
      refine cl_X12_298 X (by decide) (Nat.le_of_ble_eq_true rfl) dX12_digest_54 h (fun r10 M11 h => ?_)
      refine g_i2l X dX12_digest_57 ?_
      refine cl_X12_347 X (by decide) (Nat.le_of_ble_eq_true rfl) dX12_digest_58 h (fun M13 h => ?_)
      refine g_aload_n X dX12_digest_61 rfl 0 rfl ?_
      refine g_aload_n X dX12_digest_62 rfl 0 rfl ?_
      refine g_iconst (v := 0) X dX12_digest_63 (by decide) ?_
      refine g_iconst (v := 1) X dX12_digest_64 (by decide) ?_
      refine g_iconst (v := 2) X dX12_digest_65 (by decide) ?_
      refine g_iconst (v := 1) X dX12_digest_66 (by decide) ?_
      refine cl_X12_298 X (by decide) (Nat.le_of_ble_eq_true rfl) dX12_digest_67 h (fun r14 M15 h => ?_)
      refine g_i2l X dX12_digest_70 ?_
      refine cl_X12_347 X (by decide) (Nat.le_of_ble_eq_true rfl) dX12_digest_71 h (fun M17 h => ?_)
      refine g_iconst (v := 0) X dX12_digest_74 (by decide) ?_
      refine g_istore_n (lv' := [(0, .ref (ad E 29)), (1, .int 0)]) X dX12_digest_75 rfl (Nat.le_of_ble_eq_true rfl) rfl rfl ?_
      exact h
  · refine g_aload_n X dX12_digest_17 rfl 0 rfl ?_
    refine g_iload_n X dX12_digest_18 rfl 1 rfl ?_
    refine cl_X12_353 X (by decide) (Nat.le_of_ble_eq_true rfl) dX12_digest_19 h (fun M19 h => ?_)
    refine g_iinc (w := 1) X dX12_digest_22 1 rfl (by decide) (Nat.le_of_ble_eq_true rfl) rfl (fun x1_20 => [(0, .ref (ad E 29)), (1, .int x1_20)]) (fun _ => rfl) h (fun x1_20 h => ?_)
    refine g_goto (tgt := 9) X dX12_digest_25 (by decide) ?_
    exact h
theorem w_X12_digest (E : Ek) (l : Launch) {M : Mem} {Post : Int64 → Mem → Prop} (h : wp_X12_digest Post M ) : ctL E l yX12_digest cX12_digest 2 (some .long) 7 [.ref (ad E 29)] M Post := by
  refine ct_of (by decide) (Nat.le_of_ble_eq_true rfl) (fun x X hQ => ?_)
  have h := h (fun M v1 => G E x M 9 [(0, .ref (ad E 29)), (1, .int v1)] []) (fun M v1 => G E x M 76 [(0, .ref (ad E 29)), (1, .int v1)] []) (fun M v1 => G E x M 103 [(0, .ref (ad E 29)), (1, .int v1)] []) (fun M v1 h => k_X12_digest_b9 X hQ  h) (fun M v1 h => k_X12_digest_b76 X hQ  h) (fun M v1 h => k_X12_digest_b103 X hQ  h)
  change G E x M 0 [(0, .ref (ad E 29))] []
  refine g_aload_n X dX12_digest_0 rfl 0 rfl ?_
  refine g_ldc2 X dX12_digest_1 m792 ?_
  refine fp_X12_343 X dX12_digest_4 h (fun M1 h => ?_)
  refine g_iconst (v := 0) X dX12_digest_7 (by decide) ?_
  refine g_istore_n (lv' := [(0, .ref (ad E 29)), (1, .int 0)]) X dX12_digest_8 rfl (Nat.le_of_ble_eq_true rfl) rfl rfl ?_
  exact h
