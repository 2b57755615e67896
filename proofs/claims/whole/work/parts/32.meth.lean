theorem cw_X12_isOf : CW yX12_isOf cX12_isOf 3 (some .boolean) 2 := ⟨m690, m499, Nat.le_of_ble_eq_true rfl, by decide +kernel⟩
def wp_X12_isOf (Post : Int32 → Mem → Prop) (M : Mem) (v1 : Int32) (v2 : Int32) : Prop :=
 ((rd M 29 7) ≤ v1 →
  Post 0 M) ∧
 (¬ (rd M 29 7) ≤ v1 →
  vp_in v1 4 ∧
  (¬ (rd M 42 v1.toNatClampNeg) = 0 →
   Post 0 M) ∧
  ((rd M 42 v1.toNatClampNeg) = 0 →
   vp_in v1 4 ∧
   (¬ (rd M 40 v1.toNatClampNeg) = v2 →
    Post 0 M) ∧
   ((rd M 40 v1.toNatClampNeg) = v2 →
    Post 1 M)))
theorem w_X12_isOf (E : Ek) (l : Launch) {v1 : Int32} {v2 : Int32} {M : Mem} {Post : Int32 → Mem → Prop} (h : wp_X12_isOf Post M v1 v2) : ctI E l yX12_isOf cX12_isOf 3 (some .boolean) 1 [.ref (ad E 29), .int v1, .int v2] M Post := by
  refine ct_of (by decide) (Nat.le_of_ble_eq_true rfl) (fun x X hQ => ?_)
  change G E x M 0 [(0, .ref (ad E 29)), (1, .int v1), (2, .int v2)] []
  refine g_iload_n X dX12_isOf_0 rfl 1 rfl ?_
  refine g_aload_n X dX12_isOf_1 rfl 0 rfl ?_
  refine fg_X12_162 X dX12_isOf_2 ?_
  refine g_icmpge (tgt := 31) X dX12_isOf_5 (by decide) h (fun h => ?_) (fun h => ?_)
  · refine g_iconst (v := 0) X dX12_isOf_31 (by decide) ?_
    exact g_zret X hQ dX12_isOf_32 ⟨Or.inl rfl, h⟩
  · refine g_aload_n X dX12_isOf_8 rfl 0 rfl ?_
    refine fg_X12_46 X dX12_isOf_9 ?_
    refine g_iload_n X dX12_isOf_12 rfl 1 rfl ?_
    refine g_iald X ia_42 dX12_isOf_13 h (fun h => ?_)
    refine g_ifne (tgt := 31) X dX12_isOf_14 (by decide) h (fun h => ?_) (fun h => ?_)
    · refine g_iconst (v := 0) X dX12_isOf_31 (by decide) ?_
      exact g_zret X hQ dX12_isOf_32 ⟨Or.inl rfl, h⟩
    · refine g_aload_n X dX12_isOf_17 rfl 0 rfl ?_
      refine fg_X12_40 X dX12_isOf_18 ?_
      refine g_iload_n X dX12_isOf_21 rfl 1 rfl ?_
      refine g_iald X ia_40 dX12_isOf_22 h (fun h => ?_)
      refine g_iload_n X dX12_isOf_23 rfl 2 rfl ?_
      refine g_icmpne (tgt := 31) X dX12_isOf_24 (by decide) h (fun h => ?_) (fun h => ?_)
      · refine g_iconst (v := 0) X dX12_isOf_31 (by decide) ?_
        exact g_zret X hQ dX12_isOf_32 ⟨Or.inl rfl, h⟩
      · refine g_iconst (v := 1) X dX12_isOf_27 (by decide) ?_
        refine g_goto (tgt := 32) X dX12_isOf_28 (by decide) ?_
        exact g_zret X hQ dX12_isOf_32 ⟨Or.inr rfl, h⟩
theorem cl_X12_267 {E : Ek} {x : MC} {cc : ByteArray} {nL hm pc : Nat} {M : Mem} {lv : List (Nat × Value)} {st : List Value} (X : Cx E x cc nL RX12 hm) {v1 : Int32} {v2 : Int32} {Post : Int32 → Mem → Prop} (hr : 1 < hm) (hW : (st.map fun v => v.category).sum ≤ 8) (hd : decode cc pc = .ok (.invokevirtual 267, 3)) (h : wp_X12_isOf Post M v1 v2) (kk : ∀ r M1, Post r M1 → G E x M1 (pc + 3) lv (.int r :: st)) : G E x M pc lv (.int v2 :: .int v1 :: .ref (ad E 29) :: st) := k_I (fun hP hS hL => run_V X (w_X12_isOf E (xl x)  h) cw_X12_isOf m691 m692 m693 (⟨by decide, fun E f h => ⟨_, _, _, rfl, rfl, rfl⟩⟩ : OC 29 RX12) hr rfl hd hW hP hS hL) kk
theorem cw_X12_topOf : CW yX12_topOf cX12_topOf 3 (some .int) 2 := ⟨m694, m499, Nat.le_of_ble_eq_true rfl, by decide +kernel⟩
def wp_X12_topOf (Post : Int32 → Mem → Prop) (M : Mem) (v1 : Int32) (v2 : Int32) : Prop :=
 wp_X12_isOf (fun r1 M2 =>
  (r1 = 0 →
   Post 0 M2) ∧
  (¬ r1 = 0 →
   vp_in v1 4 ∧
   Post (rd M2 41 v1.toNatClampNeg) M2)) M v1 v2
theorem w_X12_topOf (E : Ek) (l : Launch) {v1 : Int32} {v2 : Int32} {M : Mem} {Post : Int32 → Mem → Prop} (h : wp_X12_topOf Post M v1 v2) : ctI E l yX12_topOf cX12_topOf 3 (some .int) 2 [.ref (ad E 29), .int v1, .int v2] M Post := by
  refine ct_of (by decide) (Nat.le_of_ble_eq_true rfl) (fun x X hQ => ?_)
  change G E x M 0 [(0, .ref (ad E 29)), (1, .int v1), (2, .int v2)] []
  refine g_aload_n X dX12_topOf_0 rfl 0 rfl ?_
  refine g_iload_n X dX12_topOf_1 rfl 1 rfl ?_
  refine g_iload_n X dX12_topOf_2 rfl 2 rfl ?_
  refine cl_X12_267 X (by decide) (Nat.le_of_ble_eq_true rfl) dX12_topOf_3 h (fun r1 M2 h => ?_)
  refine g_ifeq (tgt := 18) X dX12_topOf_6 (by decide) h (fun h => ?_) (fun h => ?_)
  · refine g_iconst (v := 0) X dX12_topOf_18 (by decide) ?_
    exact g_iret X hQ dX12_topOf_19 h
  · refine g_aload_n X dX12_topOf_9 rfl 0 rfl ?_
    refine fg_X12_43 X dX12_topOf_10 ?_
    refine g_iload_n X dX12_topOf_13 rfl 1 rfl ?_
    refine g_iald X ia_41 dX12_topOf_14 h (fun h => ?_)
    refine g_goto (tgt := 19) X dX12_topOf_15 (by decide) ?_
    exact g_iret X hQ dX12_topOf_19 h
theorem cl_X12_271 {E : Ek} {x : MC} {cc : ByteArray} {nL hm pc : Nat} {M : Mem} {lv : List (Nat × Value)} {st : List Value} (X : Cx E x cc nL RX12 hm) {v1 : Int32} {v2 : Int32} {Post : Int32 → Mem → Prop} (hr : 2 < hm) (hW : (st.map fun v => v.category).sum ≤ 8) (hd : decode cc pc = .ok (.invokevirtual 271, 3)) (h : wp_X12_topOf Post M v1 v2) (kk : ∀ r M1, Post r M1 → G E x M1 (pc + 3) lv (.int r :: st)) : G E x M pc lv (.int v2 :: .int v1 :: .ref (ad E 29) :: st) := k_I (fun hP hS hL => run_V X (w_X12_topOf E (xl x)  h) cw_X12_topOf m698 m699 m700 (⟨by decide, fun E f h => ⟨_, _, _, rfl, rfl, rfl⟩⟩ : OC 29 RX12) hr rfl hd hW hP hS hL) kk
theorem cw_X12_lessBy : CW yX12_lessBy cX12_lessBy 3 (some .int) 0 := ⟨m697, m499, Nat.le_of_ble_eq_true rfl, by decide +kernel⟩
def wp_X12_lessBy_b89 (Post : Int32 → Mem → Prop) (P4 : Mem → Int32 → Int32 → Prop) (P24 : Mem → Int32 → Int32 → Prop) (P89 : Mem → Int32 → Int32 → Prop) (M : Mem) (v1 : Int32) (v2 : Int32) : Prop :=
 (4 ≤ v2 →
  Post v1 M) ∧
 (¬ 4 ≤ v2 →
  vp_in v2 4 ∧
  (¬ (rd M 48 v2.toNatClampNeg) = 0 →
   ∀ x2_7 : Int32, x2_7 = v2 + 1 →
   P89 M (-1) x2_7) ∧
  ((rd M 48 v2.toNatClampNeg) = 0 →
   ∀ x2_8 : Int32, x2_8 = v2 + 1 →
   P89 M v1 x2_8))
def wp_X12_lessBy_b24 (Post : Int32 → Mem → Prop) (P4 : Mem → Int32 → Int32 → Prop) (P24 : Mem → Int32 → Int32 → Prop) (P89 : Mem → Int32 → Int32 → Prop) (M : Mem) (v1 : Int32) (v2 : Int32) : Prop :=
 ((rd M 29 7) ≤ v2 →
  P89 M v1 0) ∧
 (¬ (rd M 29 7) ≤ v2 →
  vp_in v2 4 ∧
  vp_in (rd M 38 v2.toNatClampNeg) 4 ∧
  vp_in v2 4 ∧
  vp_in (rd M 38 v2.toNatClampNeg) 4 ∧
  ∀ M3 : Mem, M3 = wr M 48 (rd M 38 v2.toNatClampNeg).toNatClampNeg ((rd M 48 (rd M 38 v2.toNatClampNeg).toNatClampNeg) - (rd M 47 v2.toNatClampNeg)) →
  vp_in v2 4 ∧
  vp_in (rd M3 39 v2.toNatClampNeg) 4 ∧
  vp_in v2 4 ∧
  vp_in (rd M3 39 v2.toNatClampNeg) 4 ∧
  ∀ M4 : Mem, M4 = wr M3 48 (rd M3 39 v2.toNatClampNeg).toNatClampNeg ((rd M3 48 (rd M3 39 v2.toNatClampNeg).toNatClampNeg) + (rd M3 47 v2.toNatClampNeg)) →
  vp_in v2 4 ∧
  ∀ x1_5 : Int32, x1_5 = v1 + (rd M4 47 v2.toNatClampNeg) →
  ∀ x2_6 : Int32, x2_6 = v2 + 1 →
  P24 M4 x1_5 x2_6)
def wp_X12_lessBy_b4 (Post : Int32 → Mem → Prop) (P4 : Mem → Int32 → Int32 → Prop) (P24 : Mem → Int32 → Int32 → Prop) (P89 : Mem → Int32 → Int32 → Prop) (M : Mem) (v1 : Int32) (v2 : Int32) : Prop :=
 (4 ≤ v2 →
  P24 M v1 0) ∧
 (¬ 4 ≤ v2 →
  vp_in v2 4 ∧
  ∀ M1 : Mem, M1 = wr M 48 v2.toNatClampNeg 0 →
  ∀ x2_2 : Int32, x2_2 = v2 + 1 →
  P4 M1 v1 x2_2)
def wp_X12_lessBy (Post : Int32 → Mem → Prop) (M : Mem) : Prop :=
 ∀ (P4 : Mem → Int32 → Int32 → Prop) (P24 : Mem → Int32 → Int32 → Prop) (P89 : Mem → Int32 → Int32 → Prop) ,
  (∀ (M : Mem) (v1 : Int32) (v2 : Int32), wp_X12_lessBy_b4 Post P4 P24 P89 M v1 v2 → P4 M v1 v2) →
  (∀ (M : Mem) (v1 : Int32) (v2 : Int32), wp_X12_lessBy_b24 Post P4 P24 P89 M v1 v2 → P24 M v1 v2) →
  (∀ (M : Mem) (v1 : Int32) (v2 : Int32), wp_X12_lessBy_b89 Post P4 P24 P89 M v1 v2 → P89 M v1 v2) →
 P4 M 0 0
theorem k_X12_lessBy_b89 {E : Ek} {x : MC} (X : Cx E x cX12_lessBy 3 RX12 1) {Post : Int32 → Mem → Prop} (hQ : QI E x Post (some .int)) {M : Mem} {v1 : Int32} {v2 : Int32} (h : wp_X12_lessBy_b89 Post (fun M v1 v2 => G E x M 4 [(0, .ref (ad E 29)), (1, .int v1), (2, .int v2)] []) (fun M v1 v2 => G E x M 24 [(0, .ref (ad E 29)), (1, .int v1), (2, .int v2)] []) (fun M v1 v2 => G E x M 89 [(0, .ref (ad E 29)), (1, .int v1), (2, .int v2)] []) M v1 v2) : G E x M 89 [(0, .ref (ad E 29)), (1, .int v1), (2, .int v2)] [] := by
  refine g_iload_n X dX12_lessBy_89 rfl 2 rfl ?_
  refine g_iconst (v := 4) X dX12_lessBy_90 (by decide) ?_
  refine g_icmpge (tgt := 115) X dX12_lessBy_91 (by decide) h (fun h => ?_) (fun h => ?_)
  · refine g_iload_n X dX12_lessBy_115 rfl 1 rfl ?_
    exact g_iret X hQ dX12_lessBy_116 h
  · refine g_aload_n X dX12_lessBy_94 rfl 0 rfl ?_
    refine fg_X12_64 X dX12_lessBy_95 ?_
    refine g_iload_n X dX12_lessBy_98 rfl 2 rfl ?_
    refine g_iald X ia_48 dX12_lessBy_99 h (fun h => ?_)
    refine g_ifne (tgt := 107) X dX12_lessBy_100 (by decide) h (fun h => ?_) (fun h => ?_)
    · refine g_iconst (v := (-1)) X dX12_lessBy_107 (by decide) ?_
      refine g_istore_n (lv' := [(0, .ref (ad E 29)), (1, .int (-1)), (2, .int v2)]) X dX12_lessBy_108 rfl (Nat.le_of_ble_eq_true rfl) rfl rfl ?_
      refine g_iinc (w := 1) X dX12_lessBy_109 2 rfl (by decide) (Nat.le_of_ble_eq_true rfl) rfl (fun x2_7 => [(0, .ref (ad E 29)), (1, .int (-1)), (2, .int x2_7)]) (fun _ => rfl) h (fun x2_7 h => ?_)
      refine g_goto (tgt := 89) X dX12_lessBy_112 (by decide) ?_
      exact h
    · refine g_iload_n X dX12_lessBy_103 rfl 1 rfl ?_
      refine g_goto (tgt := 108) X dX12_lessBy_104 (by decide) ?_
      refine g_istore_n (lv' := [(0, .ref (ad E 29)), (1, .int v1), (2, .int v2)]) X dX12_lessBy_108 rfl (Nat.le_of_ble_eq_true rfl) rfl rfl ?_
      refine g_iinc (w := 1) X dX12_lessBy_109 2 rfl (by decide) (Nat.le_of_ble_eq_true rfl) rfl (fun x2_8 => [(0, .ref (ad E 29)), (1, .int v1), (2, .int x2_8)]) (fun _ => rfl) h (fun x2_8 h => ?_)
      refine g_goto (tgt := 89) X dX12_lessBy_112 (by decide) ?_
      exact h
theorem k_X12_lessBy_b24 {E : Ek} {x : MC} (X : Cx E x cX12_lessBy 3 RX12 1) {Post : Int32 → Mem → Prop} (hQ : QI E x Post (some .int)) {M : Mem} {v1 : Int32} {v2 : Int32} (h : wp_X12_lessBy_b24 Post (fun M v1 v2 => G E x M 4 [(0, .ref (ad E 29)), (1, .int v1), (2, .int v2)] []) (fun M v1 v2 => G E x M 24 [(0, .ref (ad E 29)), (1, .int v1), (2, .int v2)] []) (fun M v1 v2 => G E x M 89 [(0, .ref (ad E 29)), (1, .int v1), (2, .int v2)] []) M v1 v2) : G E x M 24 [(0, .ref (ad E 29)), (1, .int v1), (2, .int v2)] [] := by
  refine g_iload_n X dX12_lessBy_24 rfl 2 rfl ?_
  refine g_aload_n X dX12_lessBy_25 rfl 0 rfl ?_
  refine fg_X12_162 X dX12_lessBy_26 ?_
  refine g_icmpge (tgt := 87) X dX12_lessBy_29 (by decide) h (fun h => ?_) (fun h => ?_)
  · refine g_iconst (v := 0) X dX12_lessBy_87 (by decide) ?_
    refine g_istore_n (lv' := [(0, .ref (ad E 29)), (1, .int v1), (2, .int 0)]) X dX12_lessBy_88 rfl (Nat.le_of_ble_eq_true rfl) rfl rfl ?_
    exact h
  · refine g_aload_n X dX12_lessBy_32 rfl 0 rfl ?_
    refine fg_X12_64 X dX12_lessBy_33 ?_
    refine g_aload_n X dX12_lessBy_36 rfl 0 rfl ?_
    refine fg_X12_34 X dX12_lessBy_37 ?_
    refine g_iload_n X dX12_lessBy_40 rfl 2 rfl ?_
    refine g_iald X ia_38 dX12_lessBy_41 h (fun h => ?_)
    refine g_dup2 X dX12_lessBy_42 rfl rfl ?_
    refine g_iald X ia_48 dX12_lessBy_43 h (fun h => ?_)
    refine g_aload_n X dX12_lessBy_44 rfl 0 rfl ?_
    refine fg_X12_61 X dX12_lessBy_45 ?_
    refine g_iload_n X dX12_lessBy_48 rfl 2 rfl ?_
    refine g_iald X ia_47 dX12_lessBy_49 h (fun h => ?_)
    refine g_isub X dX12_lessBy_50 ?_
    refine g_iast X ia_48 dX12_lessBy_51 h (fun M3 h => ?_)
    refine g_aload_n X dX12_lessBy_52 rfl 0 rfl ?_
    refine fg_X12_64 X dX12_lessBy_53 ?_
    refine g_aload_n X dX12_lessBy_56 rfl 0 rfl ?_
    refine fg_X12_37 X dX12_lessBy_57 ?_
    refine g_iload_n X dX12_lessBy_60 rfl 2 rfl ?_
    refine g_iald X ia_39 dX12_lessBy_61 h (fun h => ?_)
    refine g_dup2 X dX12_lessBy_62 rfl rfl ?_
    refine g_iald X ia_48 dX12_lessBy_63 h (fun h => ?_)
    refine g_aload_n X dX12_lessBy_64 rfl 0 rfl ?_
    refine fg_X12_61 X dX12_lessBy_65 ?_
    refine g_iload_n X dX12_lessBy_68 rfl 2 rfl ?_
    refine g_iald X ia_47 dX12_lessBy_69 h (fun h => ?_)
    refine g_iadd X dX12_lessBy_70 ?_
    refine g_iast X ia_48 dX12_lessBy_71 h (fun M4 h => ?_)
    refine g_iload_n X dX12_lessBy_72 rfl 1 rfl ?_
    refine g_aload_n X dX12_lessBy_73 rfl 0 rfl ?_
    refine fg_X12_61 X dX12_lessBy_74 ?_
    refine g_iload_n X dX12_lessBy_77 rfl 2 rfl ?_
    refine g_iald X ia_47 dX12_lessBy_78 h (fun h => ?_)
    refine g_iadd X dX12_lessBy_79 ?_
    refine g_nm h (fun x1_5 h => ?_)
    refine g_istore_n (lv' := [(0, .ref (ad E 29)), (1, .int x1_5), (2, .int v2)]) X dX12_lessBy_80 rfl (Nat.le_of_ble_eq_true rfl) rfl rfl ?_
    refine g_iinc (w := 1) X dX12_lessBy_81 2 rfl (by decide) (Nat.le_of_ble_eq_true rfl) rfl (fun x2_6 => [(0, .ref (ad E 29)), (1, .int x1_5), (2, .int x2_6)]) (fun _ => rfl) h (fun x2_6 h => ?_)
    refine g_goto (tgt := 24) X dX12_lessBy_84 (by decide) ?_
    exact h
theorem k_X12_lessBy_b4 {E : Ek} {x : MC} (X : Cx E x cX12_lessBy 3 RX12 1) {Post : Int32 → Mem → Prop} (hQ : QI E x Post (some .int)) {M : Mem} {v1 : Int32} {v2 : Int32} (h : wp_X12_lessBy_b4 Post (fun M v1 v2 => G E x M 4 [(0, .ref (ad E 29)), (1, .int v1), (2, .int v2)] []) (fun M v1 v2 => G E x M 24 [(0, .ref (ad E 29)), (1, .int v1), (2, .int v2)] []) (fun M v1 v2 => G E x M 89 [(0, .ref (ad E 29)), (1, .int v1), (2, .int v2)] []) M v1 v2) : G E x M 4 [(0, .ref (ad E 29)), (1, .int v1), (2, .int v2)] [] := by
  refine g_iload_n X dX12_lessBy_4 rfl 2 rfl ?_
  refine g_iconst (v := 4) X dX12_lessBy_5 (by decide) ?_
  refine g_icmpge (tgt := 22) X dX12_lessBy_6 (by decide) h (fun h => ?_) (fun h => ?_)
  · refine g_iconst (v := 0) X dX12_lessBy_22 (by decide) ?_
    refine g_istore_n (lv' := [(0, .ref (ad E 29)), (1, .int v1), (2, .int 0)]) X dX12_lessBy_23 rfl (Nat.le_of_ble_eq_true rfl) rfl rfl ?_
    exact h
  · refine g_aload_n X dX12_lessBy_9 rfl 0 rfl ?_
    refine fg_X12_64 X dX12_lessBy_10 ?_
    refine g_iload_n X dX12_lessBy_13 rfl 2 rfl ?_
    refine g_iconst (v := 0) X dX12_lessBy_14 (by decide) ?_
    refine g_iast X ia_48 dX12_lessBy_15 h (fun M1 h => ?_)
    refine g_iinc (w := 1) X dX12_lessBy_16 2 rfl (by decide) (Nat.le_of_ble_eq_true rfl) rfl (fun x2_2 => [(0, .ref (ad E 29)), (1, .int v1), (2, .int x2_2)]) (fun _ => rfl) h (fun x2_2 h => ?_)
    refine g_goto (tgt := 4) X dX12_lessBy_19 (by decide) ?_
    exact h
theorem w_X12_lessBy (E : Ek) (l : Launch) {M : Mem} {Post : Int32 → Mem → Prop} (h : wp_X12_lessBy Post M ) : ctI E l yX12_lessBy cX12_lessBy 3 (some .int) 1 [.ref (ad E 29)] M Post := by
  refine ct_of (by decide) (Nat.le_of_ble_eq_true rfl) (fun x X hQ => ?_)
  have h := h (fun M v1 v2 => G E x M 4 [(0, .ref (ad E 29)), (1, .int v1), (2, .int v2)] []) (fun M v1 v2 => G E x M 24 [(0, .ref (ad E 29)), (1, .int v1), (2, .int v2)] []) (fun M v1 v2 => G E x M 89 [(0, .ref (ad E 29)), (1, .int v1), (2, .int v2)] []) (fun M v1 v2 h => k_X12_lessBy_b4 X hQ  h) (fun M v1 v2 h => k_X12_lessBy_b24 X hQ  h) (fun M v1 v2 h => k_X12_lessBy_b89 X hQ  h)
  change G E x M 0 [(0, .ref (ad E 29))] []
  refine g_iconst (v := 0) X dX12_lessBy_0 (by decide) ?_
  refine g_istore_n (lv' := [(0, .ref (ad E 29)), (1, .int 0)]) X dX12_lessBy_1 rfl (Nat.le_of_ble_eq_true rfl) rfl rfl ?_
  refine g_iconst (v := 0) X dX12_lessBy_2 (by decide) ?_
  refine g_istore_n (lv' := [(0, .ref (ad E 29)), (1, .int 0), (2, .int 0)]) X dX12_lessBy_3 rfl (Nat.le_of_ble_eq_true rfl) rfl rfl ?_
  exact h
theorem cl_X12_274 {E : Ek} {x : MC} {cc : ByteArray} {nL hm pc : Nat} {M : Mem} {lv : List (Nat × Value)} {st : List Value} (X : Cx E x cc nL RX12 hm) {Post : Int32 → Mem → Prop} (hr : 1 < hm) (hW : (st.map fun v => v.category).sum ≤ 8) (hd : decode cc pc = .ok (.invokevirtual 274, 3)) (h : wp_X12_lessBy Post M ) (kk : ∀ r M1, Post r M1 → G E x M1 (pc + 3) lv (.int r :: st)) : G E x M pc lv (.ref (ad E 29) :: st) := k_I (fun hP hS hL => run_V X (w_X12_lessBy E (xl x)  h) cw_X12_lessBy m701 m702 m703 (⟨by decide, fun E f h => ⟨_, _, _, rfl, rfl, rfl⟩⟩ : OC 29 RX12) hr rfl hd hW hP hS hL) kk
theorem cw_X12_layCancel : CW yX12_layCancel cX12_layCancel 4 (some .int) 1 := ⟨m705, m499, Nat.le_of_ble_eq_true rfl, by decide +kernel⟩
def wp_X12_layCancel_b113 (Post : Int32 → Mem → Prop) (v1 : Int32) (P9 : Mem → Int32 → Prop) (P31 : Mem → Int32 → Prop) (P53 : Mem → Int32 → Prop) (P75 : Mem → Int32 → Prop) (M : Mem) (v2 : Int32) : Prop :=
 vp_in 3 4 ∧
 vp_in 3 4 ∧
 ∀ M20 : Mem, M20 = wr M 47 (3 : Int32).toNatClampNeg ((rd M 47 (3 : Int32).toNatClampNeg) + 1) →
 P75 M20 v2
def wp_X12_layCancel_b75 (Post : Int32 → Mem → Prop) (v1 : Int32) (P9 : Mem → Int32 → Prop) (P31 : Mem → Int32 → Prop) (P53 : Mem → Int32 → Prop) (P75 : Mem → Int32 → Prop) (M : Mem) (v2 : Int32) : Prop :=
 vp_in 3 4 ∧
 wp_X12_topOf (fun r13 M14 =>
  (r13 < (rd M 47 (3 : Int32).toNatClampNeg) →
   vp_in 2 4 ∧
   vp_in 2 4 ∧
   ∀ M15 : Mem, M15 = wr M14 47 (2 : Int32).toNatClampNeg ((rd M14 47 (2 : Int32).toNatClampNeg) + 1) →
   P53 M15 v2) ∧
  (¬ r13 < (rd M 47 (3 : Int32).toNatClampNeg) →
   wp_X12_lessBy (fun r16 M17 =>
    (r16 ≤ v2 →
     wp_X12_layCancel_b113 Post v1 P9 P31 P53 P75 M17 v2) ∧
    (¬ r16 ≤ v2 →
     wp_X12_copy (fun M19 =>
      wp_X12_layCancel_b113 Post v1 P9 P31 P53 P75 M19 r16) M17 47 4 49 4)) M14 )) M 3 v1
def wp_X12_layCancel_b53 (Post : Int32 → Mem → Prop) (v1 : Int32) (P9 : Mem → Int32 → Prop) (P31 : Mem → Int32 → Prop) (P53 : Mem → Int32 → Prop) (P75 : Mem → Int32 → Prop) (M : Mem) (v2 : Int32) : Prop :=
 vp_in 2 4 ∧
 wp_X12_topOf (fun r9 M10 =>
  (r9 < (rd M 47 (2 : Int32).toNatClampNeg) →
   vp_in 1 4 ∧
   vp_in 1 4 ∧
   ∀ M11 : Mem, M11 = wr M10 47 (1 : Int32).toNatClampNeg ((rd M10 47 (1 : Int32).toNatClampNeg) + 1) →
   P31 M11 v2) ∧
  (¬ r9 < (rd M 47 (2 : Int32).toNatClampNeg) →
   vp_in 3 4 ∧
   ∀ M12 : Mem, M12 = wr M10 47 (3 : Int32).toNatClampNeg 0 →
   P75 M12 v2)) M 2 v1
def wp_X12_layCancel_b31 (Post : Int32 → Mem → Prop) (v1 : Int32) (P9 : Mem → Int32 → Prop) (P31 : Mem → Int32 → Prop) (P53 : Mem → Int32 → Prop) (P75 : Mem → Int32 → Prop) (M : Mem) (v2 : Int32) : Prop :=
 vp_in 1 4 ∧
 wp_X12_topOf (fun r5 M6 =>
  (r5 < (rd M 47 (1 : Int32).toNatClampNeg) →
   vp_in 0 4 ∧
   vp_in 0 4 ∧
   ∀ M7 : Mem, M7 = wr M6 47 (0 : Int32).toNatClampNeg ((rd M6 47 (0 : Int32).toNatClampNeg) + 1) →
   P9 M7 v2) ∧
  (¬ r5 < (rd M 47 (1 : Int32).toNatClampNeg) →
   vp_in 2 4 ∧
   ∀ M8 : Mem, M8 = wr M6 47 (2 : Int32).toNatClampNeg 0 →
   P53 M8 v2)) M 1 v1
def wp_X12_layCancel_b9 (Post : Int32 → Mem → Prop) (v1 : Int32) (P9 : Mem → Int32 → Prop) (P31 : Mem → Int32 → Prop) (P53 : Mem → Int32 → Prop) (P75 : Mem → Int32 → Prop) (M : Mem) (v2 : Int32) : Prop :=
 vp_in 0 4 ∧
 wp_X12_topOf (fun r2 M3 =>
  (r2 < (rd M 47 (0 : Int32).toNatClampNeg) →
   Post v2 M3) ∧
  (¬ r2 < (rd M 47 (0 : Int32).toNatClampNeg) →
   vp_in 1 4 ∧
   ∀ M4 : Mem, M4 = wr M3 47 (1 : Int32).toNatClampNeg 0 →
   P31 M4 v2)) M 0 v1
def wp_X12_layCancel (Post : Int32 → Mem → Prop) (M : Mem) (v1 : Int32) : Prop :=
 ∀ (P9 : Mem → Int32 → Prop) (P31 : Mem → Int32 → Prop) (P53 : Mem → Int32 → Prop) (P75 : Mem → Int32 → Prop) ,
  (∀ (M : Mem) (v2 : Int32), wp_X12_layCancel_b9 Post v1 P9 P31 P53 P75 M v2 → P9 M v2) →
  (∀ (M : Mem) (v2 : Int32), wp_X12_layCancel_b31 Post v1 P9 P31 P53 P75 M v2 → P31 M v2) →
  (∀ (M : Mem) (v2 : Int32), wp_X12_layCancel_b53 Post v1 P9 P31 P53 P75 M v2 → P53 M v2) →
  (∀ (M : Mem) (v2 : Int32), wp_X12_layCancel_b75 Post v1 P9 P31 P53 P75 M v2 → P75 M v2) →
 vp_in 0 4 ∧
 ∀ M1 : Mem, M1 = wr M 47 (0 : Int32).toNatClampNeg 0 →
 P9 M1 (-1)
theorem k_X12_layCancel_b113 {E : Ek} {x : MC} (X : Cx E x cX12_layCancel 4 RX12 3) {Post : Int32 → Mem → Prop} (hQ : QI E x Post (some .int)) {v1 : Int32} {M : Mem} {v2 : Int32} (h : wp_X12_layCancel_b113 Post v1 (fun M v2 => G E x M 9 [(0, .ref (ad E 29)), (1, .int v1), (2, .int v2)] []) (fun M v2 => G E x M 31 [(0, .ref (ad E 29)), (1, .int v1), (2, .int v2)] []) (fun M v2 => G E x M 53 [(0, .ref (ad E 29)), (1, .int v1), (2, .int v2)] []) (fun M v2 => G E x M 75 [(0, .ref (ad E 29)), (1, .int v1), (2, .int v2)] []) M v2) : G E x M 113 [(0, .ref (ad E 29)), (1, .int v1), (2, .int v2)] [] := by
  refine g_aload_n X dX12_layCancel_113 rfl 0 rfl ?_
  refine fg_X12_61 X dX12_layCancel_114 ?_
  refine g_iconst (v := 3) X dX12_layCancel_117 (by decide) ?_
  refine g_dup2 X dX12_layCancel_118 rfl rfl ?_
  refine g_iald X ia_47 dX12_layCancel_119 h (fun h => ?_)
  refine g_iconst (v := 1) X dX12_layCancel_120 (by decide) ?_
  refine g_iadd X dX12_layCancel_121 ?_
  refine g_iast X ia_47 dX12_layCancel_122 h (fun M20 h => ?_)
  refine g_goto (tgt := 75) X dX12_layCancel_123 (by decide) ?_
  exact h
theorem k_X12_layCancel_b75 {E : Ek} {x : MC} (X : Cx E x cX12_layCancel 4 RX12 3) {Post : Int32 → Mem → Prop} (hQ : QI E x Post (some .int)) {v1 : Int32} {M : Mem} {v2 : Int32} (h : wp_X12_layCancel_b75 Post v1 (fun M v2 => G E x M 9 [(0, .ref (ad E 29)), (1, .int v1), (2, .int v2)] []) (fun M v2 => G E x M 31 [(0, .ref (ad E 29)), (1, .int v1), (2, .int v2)] []) (fun M v2 => G E x M 53 [(0, .ref (ad E 29)), (1, .int v1), (2, .int v2)] []) (fun M v2 => G E x M 75 [(0, .ref (ad E 29)), (1, .int v1), (2, .int v2)] []) M v2) : G E x M 75 [(0, .ref (ad E 29)), (1, .int v1), (2, .int v2)] [] := by
  refine g_aload_n X dX12_layCancel_75 rfl 0 rfl ?_
  refine fg_X12_61 X dX12_layCancel_76 ?_
  refine g_iconst (v := 3) X dX12_layCancel_79 (by decide) ?_
  refine g_iald X ia_47 dX12_layCancel_80 h (fun h => ?_)
  refine g_aload_n X dX12_layCancel_81 rfl 0 rfl ?_
  refine g_iconst (v := 3) X dX12_layCancel_82 (by decide) ?_
  refine g_iload_n X dX12_layCancel_83 rfl 1 rfl ?_
  refine cl_X12_271 X (by decide) (Nat.le_of_ble_eq_true rfl) dX12_layCancel_84 h (fun r13 M14 h => ?_)
  refine g_icmpgt (tgt := 126) X dX12_layCancel_87 (by decide) h (fun h => ?_) (fun h => ?_)
  · refine g_aload_n X dX12_layCancel_126 rfl 0 rfl ?_
    refine fg_X12_61 X dX12_layCancel_127 ?_
    refine g_iconst (v := 2) X dX12_layCancel_130 (by decide) ?_
    refine g_dup2 X dX12_layCancel_131 rfl rfl ?_
    refine g_iald X ia_47 dX12_layCancel_132 h (fun h => ?_)
    refine g_iconst (v := 1) X dX12_layCancel_133 (by decide) ?_
    refine g_iadd X dX12_layCancel_134 ?_
    refine g_iast X ia_47 dX12_layCancel_135 h (fun M15 h => ?_)
    refine g_goto (tgt := 53) X dX12_layCancel_136 (by decide) ?_
    exact h
  · refine g_aload_n X dX12_layCancel_90 rfl 0 rfl ?_
    refine cl_X12_274 X (by decide) (Nat.le_of_ble_eq_true rfl) dX12_layCancel_91 h (fun r16 M17 h => ?_)
    refine g_istore_n (lv' := [(0, .ref (ad E 29)), (1, .int v1), (2, .int v2), (3, .int r16)]) X dX12_layCancel_94 rfl (Nat.le_of_ble_eq_true rfl) rfl rfl ?_
    refine g_iload_n X dX12_layCancel_95 rfl 3 rfl ?_
    refine g_iload_n X dX12_layCancel_96 rfl 2 rfl ?_
    refine g_icmple (tgt := 113) X dX12_layCancel_97 (by decide) h (fun h => ?_) (fun h => ?_)
    · exact g_sub [0, 1, 2] rfl (k_X12_layCancel_b113 X hQ  h)
    · refine g_iload_n X dX12_layCancel_100 rfl 3 rfl ?_
      refine g_istore_n (lv' := [(0, .ref (ad E 29)), (1, .int v1), (2, .int r16), (3, .int r16)]) X dX12_layCancel_101 rfl (Nat.le_of_ble_eq_true rfl) rfl rfl ?_
      refine g_aload_n X dX12_layCancel_102 rfl 0 rfl ?_
      refine fg_X12_61 X dX12_layCancel_103 ?_
      refine g_aload_n X dX12_layCancel_106 rfl 0 rfl ?_
      refine fg_X12_67 X dX12_layCancel_107 ?_
      refine cl_X12_177 X ia_47 ia_49 (by decide) (Nat.le_of_ble_eq_true rfl) dX12_layCancel_110 h (fun M19 h => ?_)
      exact g_sub [0, 1, 2] rfl (k_X12_layCancel_b113 X hQ  h)
theorem k_X12_layCancel_b53 {E : Ek} {x : MC} (X : Cx E x cX12_layCancel 4 RX12 3) {Post : Int32 → Mem → Prop} (hQ : QI E x Post (some .int)) {v1 : Int32} {M : Mem} {v2 : Int32} (h : wp_X12_layCancel_b53 Post v1 (fun M v2 => G E x M 9 [(0, .ref (ad E 29)), (1, .int v1), (2, .int v2)] []) (fun M v2 => G E x M 31 [(0, .ref (ad E 29)), (1, .int v1), (2, .int v2)] []) (fun M v2 => G E x M 53 [(0, .ref (ad E 29)), (1, .int v1), (2, .int v2)] []) (fun M v2 => G E x M 75 [(0, .ref (ad E 29)), (1, .int v1), (2, .int v2)] []) M v2) : G E x M 53 [(0, .ref (ad E 29)), (1, .int v1), (2, .int v2)] [] := by
  refine g_aload_n X dX12_layCancel_53 rfl 0 rfl ?_
  refine fg_X12_61 X dX12_layCancel_54 ?_
  refine g_iconst (v := 2) X dX12_layCancel_57 (by decide) ?_
  refine g_iald X ia_47 dX12_layCancel_58 h (fun h => ?_)
  refine g_aload_n X dX12_layCancel_59 rfl 0 rfl ?_
  refine g_iconst (v := 2) X dX12_layCancel_60 (by decide) ?_
  refine g_iload_n X dX12_layCancel_61 rfl 1 rfl ?_
  refine cl_X12_271 X (by decide) (Nat.le_of_ble_eq_true rfl) dX12_layCancel_62 h (fun r9 M10 h => ?_)
  refine g_icmpgt (tgt := 139) X dX12_layCancel_65 (by decide) h (fun h => ?_) (fun h => ?_)
  · refine g_aload_n X dX12_layCancel_139 rfl 0 rfl ?_
    refine fg_X12_61 X dX12_layCancel_140 ?_
    refine g_iconst (v := 1) X dX12_layCancel_143 (by decide) ?_
    refine g_dup2 X dX12_layCancel_144 rfl rfl ?_
    refine g_iald X ia_47 dX12_layCancel_145 h (fun h => ?_)
    refine g_iconst (v := 1) X dX12_layCancel_146 (by decide) ?_
    refine g_iadd X dX12_layCancel_147 ?_
    refine g_iast X ia_47 dX12_layCancel_148 h (fun M11 h => ?_)
    refine g_goto (tgt := 31) X dX12_layCancel_149 (by decide) ?_
    exact h
  · refine g_aload_n X dX12_layCancel_68 rfl 0 rfl ?_
    refine fg_X12_61 X dX12_layCancel_69 ?_
    refine g_iconst (v := 3) X dX12_layCancel_72 (by decide) ?_
    refine g_iconst (v := 0) X dX12_layCancel_73 (by decide) ?_
    refine g_iast X ia_47 dX12_layCancel_74 h (fun M12 h => ?_)
    exact h
theorem k_X12_layCancel_b31 {E : Ek} {x : MC} (X : Cx E x cX12_layCancel 4 RX12 3) {Post : Int32 → Mem → Prop} (hQ : QI E x Post (some .int)) {v1 : Int32} {M : Mem} {v2 : Int32} (h : wp_X12_layCancel_b31 Post v1 (fun M v2 => G E x M 9 [(0, .ref (ad E 29)), (1, .int v1), (2, .int v2)] []) (fun M v2 => G E x M 31 [(0, .ref (ad E 29)), (1, .int v1), (2, .int v2)] []) (fun M v2 => G E x M 53 [(0, .ref (ad E 29)), (1, .int v1), (2, .int v2)] []) (fun M v2 => G E x M 75 [(0, .ref (ad E 29)), (1, .int v1), (2, .int v2)] []) M v2) : G E x M 31 [(0, .ref (ad E 29)), (1, .int v1), (2, .int v2)] [] := by
  refine g_aload_n X dX12_layCancel_31 rfl 0 rfl ?_
  refine fg_X12_61 X dX12_layCancel_32 ?_
  refine g_iconst (v := 1) X dX12_layCancel_35 (by decide) ?_
  refine g_iald X ia_47 dX12_layCancel_36 h (fun h => ?_)
  refine g_aload_n X dX12_layCancel_37 rfl 0 rfl ?_
  refine g_iconst (v := 1) X dX12_layCancel_38 (by decide) ?_
  refine g_iload_n X dX12_layCancel_39 rfl 1 rfl ?_
  refine cl_X12_271 X (by decide) (Nat.le_of_ble_eq_true rfl) dX12_layCancel_40 h (fun r5 M6 h => ?_)
  refine g_icmpgt (tgt := 152) X dX12_layCancel_43 (by decide) h (fun h => ?_) (fun h => ?_)
  · refine g_aload_n X dX12_layCancel_152 rfl 0 rfl ?_
    refine fg_X12_61 X dX12_layCancel_153 ?_
    refine g_iconst (v := 0) X dX12_layCancel_156 (by decide) ?_
    refine g_dup2 X dX12_layCancel_157 rfl rfl ?_
    refine g_iald X ia_47 dX12_layCancel_158 h (fun h => ?_)
    refine g_iconst (v := 1) X dX12_layCancel_159 (by decide) ?_
    refine g_iadd X dX12_layCancel_160 ?_
    refine g_iast X ia_47 dX12_layCancel_161 h (fun M7 h => ?_)
    refine g_goto (tgt := 9) X dX12_layCancel_162 (by decide) ?_
    exact h
  · refine g_aload_n X dX12_layCancel_46 rfl 0 rfl ?_
    refine fg_X12_61 X dX12_layCancel_47 ?_
    refine g_iconst (v := 2) X dX12_layCancel_50 (by decide) ?_
    refine g_iconst (v := 0) X dX12_layCancel_51 (by decide) ?_
    refine g_iast X ia_47 dX12_layCancel_52 h (fun M8 h => ?_)
    exact h
theorem k_X12_layCancel_b9 {E : Ek} {x : MC} (X : Cx E x cX12_layCancel 4 RX12 3) {Post : Int32 → Mem → Prop} (hQ : QI E x Post (some .int)) {v1 : Int32} {M : Mem} {v2 : Int32} (h : wp_X12_layCancel_b9 Post v1 (fun M v2 => G E x M 9 [(0, .ref (ad E 29)), (1, .int v1), (2, .int v2)] []) (fun M v2 => G E x M 31 [(0, .ref (ad E 29)), (1, .int v1), (2, .int v2)] []) (fun M v2 => G E x M 53 [(0, .ref (ad E 29)), (1, .int v1), (2, .int v2)] []) (fun M v2 => G E x M 75 [(0, .ref (ad E 29)), (1, .int v1), (2, .int v2)] []) M v2) : G E x M 9 [(0, .ref (ad E 29)), (1, .int v1), (2, .int v2)] [] := by
  refine g_aload_n X dX12_layCancel_9 rfl 0 rfl ?_
  refine fg_X12_61 X dX12_layCancel_10 ?_
  refine g_iconst (v := 0) X dX12_layCancel_13 (by decide) ?_
  refine g_iald X ia_47 dX12_layCancel_14 h (fun h => ?_)
  refine g_aload_n X dX12_layCancel_15 rfl 0 rfl ?_
  refine g_iconst (v := 0) X dX12_layCancel_16 (by decide) ?_
  refine g_iload_n X dX12_layCancel_17 rfl 1 rfl ?_
  refine cl_X12_271 X (by decide) (Nat.le_of_ble_eq_true rfl) dX12_layCancel_18 h (fun r2 M3 h => ?_)
  refine g_icmpgt (tgt := 165) X dX12_layCancel_21 (by decide) h (fun h => ?_) (fun h => ?_)
  · refine g_iload_n X dX12_layCancel_165 rfl 2 rfl ?_
    exact g_iret X hQ dX12_layCancel_166 h
  · refine g_aload_n X dX12_layCancel_24 rfl 0 rfl ?_
    refine fg_X12_61 X dX12_layCancel_25 ?_
    refine g_iconst (v := 1) X dX12_layCancel_28 (by decide) ?_
    refine g_iconst (v := 0) X dX12_layCancel_29 (by decide) ?_
    refine g_iast X ia_47 dX12_layCancel_30 h (fun M4 h => ?_)
    exact h
theorem w_X12_layCancel (E : Ek) (l : Launch) {v1 : Int32} {M : Mem} {Post : Int32 → Mem → Prop} (h : wp_X12_layCancel Post M v1) : ctI E l yX12_layCancel cX12_layCancel 4 (some .int) 3 [.ref (ad E 29), .int v1] M Post := by
  refine ct_of (by decide) (Nat.le_of_ble_eq_true rfl) (fun x X hQ => ?_)
  have h := h (fun M v2 => G E x M 9 [(0, .ref (ad E 29)), (1, .int v1), (2, .int v2)] []) (fun M v2 => G E x M 31 [(0, .ref (ad E 29)), (1, .int v1), (2, .int v2)] []) (fun M v2 => G E x M 53 [(0, .ref (ad E 29)), (1, .int v1), (2, .int v2)] []) (fun M v2 => G E x M 75 [(0, .ref (ad E 29)), (1, .int v1), (2, .int v2)] []) (fun M v2 h => k_X12_layCancel_b9 X hQ  h) (fun M v2 h => k_X12_layCancel_b31 X hQ  h) (fun M v2 h => k_X12_layCancel_b53 X hQ  h) (fun M v2 h => k_X12_layCancel_b75 X hQ  h)
  change G E x M 0 [(0, .ref (ad E 29)), (1, .int v1)] []
  refine g_iconst (v := (-1)) X dX12_layCancel_0 (by decide) ?_
  refine g_istore_n (lv' := [(0, .ref (ad E 29)), (1, .int v1), (2, .int (-1))]) X dX12_layCancel_1 rfl (Nat.le_of_ble_eq_true rfl) rfl rfl ?_
  refine g_aload_n X dX12_layCancel_2 rfl 0 rfl ?_
  refine fg_X12_61 X dX12_layCancel_3 ?_
  refine g_iconst (v := 0) X dX12_layCancel_6 (by decide) ?_
  refine g_iconst (v := 0) X dX12_layCancel_7 (by decide) ?_
  refine g_iast X ia_47 dX12_layCancel_8 h (fun M1 h => ?_)
  exact h
theorem cl_X12_277 {E : Ek} {x : MC} {cc : ByteArray} {nL hm pc : Nat} {M : Mem} {lv : List (Nat × Value)} {st : List Value} (X : Cx E x cc nL RX12 hm) {v1 : Int32} {Post : Int32 → Mem → Prop} (hr : 3 < hm) (hW : (st.map fun v => v.category).sum ≤ 8) (hd : decode cc pc = .ok (.invokevirtual 277, 3)) (h : wp_X12_layCancel Post M v1) (kk : ∀ r M1, Post r M1 → G E x M1 (pc + 3) lv (.int r :: st)) : G E x M pc lv (.int v1 :: .ref (ad E 29) :: st) := k_I (fun hP hS hL => run_V X (w_X12_layCancel E (xl x)  h) cw_X12_layCancel m706 m707 m708 (⟨by decide, fun E f h => ⟨_, _, _, rfl, rfl, rfl⟩⟩ : OC 29 RX12) hr rfl hd hW hP hS hL) kk
theorem cw_X12_cancelOf : CW yX12_cancelOf cX12_cancelOf 4 (some .int) 2 := ⟨m709, m499, Nat.le_of_ble_eq_true rfl, by decide +kernel⟩
def wp_X12_cancelOf (Post : Int32 → Mem → Prop) (M : Mem) (v1 : Int32) (v2 : Int32) : Prop :=
 wp_X12_layCancel (fun r1 M2 =>
  (¬ v2 = 0 →
   wp_X12_isOf (fun r3 M4 =>
    (r3 = 0 →
     Post (-1) M4) ∧
    (¬ r3 = 0 →
     vp_in (v2 - 10) 4 ∧
     Post (rd M4 49 (v2 - 10).toNatClampNeg) M4)) M2 (v2 - 10) v1) ∧
  (v2 = 0 →
   Post r1 M2)) M v1
theorem w_X12_cancelOf (E : Ek) (l : Launch) {v1 : Int32} {v2 : Int32} {M : Mem} {Post : Int32 → Mem → Prop} (h : wp_X12_cancelOf Post M v1 v2) : ctI E l yX12_cancelOf cX12_cancelOf 4 (some .int) 4 [.ref (ad E 29), .int v1, .int v2] M Post := by
  refine ct_of (by decide) (Nat.le_of_ble_eq_true rfl) (fun x X hQ => ?_)
  change G E x M 0 [(0, .ref (ad E 29)), (1, .int v1), (2, .int v2)] []
  refine g_aload_n X dX12_cancelOf_0 rfl 0 rfl ?_
  refine g_iload_n X dX12_cancelOf_1 rfl 1 rfl ?_
  refine cl_X12_277 X (by decide) (Nat.le_of_ble_eq_true rfl) dX12_cancelOf_2 h (fun r1 M2 h => ?_)
  refine g_istore_n (lv' := [(0, .ref (ad E 29)), (1, .int v1), (2, .int v2), (3, .int r1)]) X dX12_cancelOf_5 rfl (Nat.le_of_ble_eq_true rfl) rfl rfl ?_
  refine g_iload_n X dX12_cancelOf_6 rfl 2 rfl ?_
  refine g_ifne (tgt := 12) X dX12_cancelOf_7 (by decide) h (fun h => ?_) (fun h => ?_)
  · refine g_aload_n X dX12_cancelOf_12 rfl 0 rfl ?_
    refine g_iload_n X dX12_cancelOf_13 rfl 2 rfl ?_
    refine g_bipush (v := 10) X dX12_cancelOf_14 (by decide) ?_
    refine g_isub X dX12_cancelOf_16 ?_
    refine g_iload_n X dX12_cancelOf_17 rfl 1 rfl ?_
    refine cl_X12_267 X (by decide) (Nat.le_of_ble_eq_true rfl) dX12_cancelOf_18 h (fun r3 M4 h => ?_)
    refine g_ifeq (tgt := 36) X dX12_cancelOf_21 (by decide) h (fun h => ?_) (fun h => ?_)
    · refine g_iconst (v := (-1)) X dX12_cancelOf_36 (by decide) ?_
      exact g_iret X hQ dX12_cancelOf_37 h
    · refine g_aload_n X dX12_cancelOf_24 rfl 0 rfl ?_
      refine fg_X12_67 X dX12_cancelOf_25 ?_
      refine g_iload_n X dX12_cancelOf_28 rfl 2 rfl ?_
      refine g_bipush (v := 10) X dX12_cancelOf_29 (by decide) ?_
      refine g_isub X dX12_cancelOf_31 ?_
      refine g_iald X ia_49 dX12_cancelOf_32 h (fun h => ?_)
      refine g_goto (tgt := 37) X dX12_cancelOf_33 (by decide) ?_
      exact g_iret X hQ dX12_cancelOf_37 h
  · refine g_iload_n X dX12_cancelOf_10 rfl 3 rfl ?_
    exact g_iret X hQ dX12_cancelOf_11 h
theorem cl_X12_280 {E : Ek} {x : MC} {cc : ByteArray} {nL hm pc : Nat} {M : Mem} {lv : List (Nat × Value)} {st : List Value} (X : Cx E x cc nL RX12 hm) {v1 : Int32} {v2 : Int32} {Post : Int32 → Mem → Prop} (hr : 4 < hm) (hW : (st.map fun v => v.category).sum ≤ 8) (hd : decode cc pc = .ok (.invokevirtual 280, 3)) (h : wp_X12_cancelOf Post M v1 v2) (kk : ∀ r M1, Post r M1 → G E x M1 (pc + 3) lv (.int r :: st)) : G E x M pc lv (.int v2 :: .int v1 :: .ref (ad E 29) :: st) := k_I (fun hP hS hL => run_V X (w_X12_cancelOf E (xl x)  h) cw_X12_cancelOf m710 m711 m712 (⟨by decide, fun E f h => ⟨_, _, _, rfl, rfl, rfl⟩⟩ : OC 29 RX12) hr rfl hd hW hP hS hL) kk
theorem cw_X12_cancel : CW yX12_cancel cX12_cancel 3 (some .int) 2 := ⟨m713, m499, Nat.le_of_ble_eq_true rfl, by decide +kernel⟩
def wp_X12_cancel_b29 (Post : Int32 → Mem → Prop) (v1 : Int32) (v2 : Int32) (M : Mem) : Prop :=
 wp_X12_cancelOf (fun r5 M6 =>
  Post r5 M6) M v1 v2
def wp_X12_cancel (Post : Int32 → Mem → Prop) (M : Mem) (v1 : Int32) (v2 : Int32) : Prop :=
 wp_X12_isRoom (fun r1 M2 =>
  (¬ r1 = 0 →
   (v2 = 0 →
    wp_X12_cancel_b29 Post v1 v2 M2) ∧
   (¬ v2 = 0 →
    wp_X12_in (fun r3 M4 =>
     (r3 = 0 →
      Post (-102) M4) ∧
     (¬ r3 = 0 →
      wp_X12_cancel_b29 Post v1 v2 M4)) M2 (v2.toInt64) (10 : Int64) (13 : Int64))) ∧
  (r1 = 0 →
   Post (-101) M2)) M v1
theorem k_X12_cancel_b29 {E : Ek} {x : MC} (X : Cx E x cX12_cancel 3 RX12 5) {Post : Int32 → Mem → Prop} (hQ : QI E x Post (some .int)) {v1 : Int32} {v2 : Int32} {M : Mem} (h : wp_X12_cancel_b29 Post v1 v2 M ) : G E x M 29 [(0, .ref (ad E 29)), (1, .int v1), (2, .int v2)] [] := by
  refine g_aload_n X dX12_cancel_29 rfl 0 rfl ?_
  refine g_iload_n X dX12_cancel_30 rfl 1 rfl ?_
  refine g_iload_n X dX12_cancel_31 rfl 2 rfl ?_
  refine cl_X12_280 X (by decide) (Nat.le_of_ble_eq_true rfl) dX12_cancel_32 h (fun r5 M6 h => ?_)
  refine g_goto (tgt := 40) X dX12_cancel_35 (by decide) ?_
  exact g_iret X hQ dX12_cancel_40 h
theorem w_X12_cancel (E : Ek) (l : Launch) {v1 : Int32} {v2 : Int32} {M : Mem} {Post : Int32 → Mem → Prop} (h : wp_X12_cancel Post M v1 v2) : ctI E l yX12_cancel cX12_cancel 3 (some .int) 5 [.ref (ad E 29), .int v1, .int v2] M Post := by
  refine ct_of (by decide) (Nat.le_of_ble_eq_true rfl) (fun x X hQ => ?_)
  change G E x M 0 [(0, .ref (ad E 29)), (1, .int v1), (2, .int v2)] []
  refine g_aload_n X dX12_cancel_0 rfl 0 rfl ?_
  refine g_iload_n X dX12_cancel_1 rfl 1 rfl ?_
  refine cl_X12_246 X (by decide) (Nat.le_of_ble_eq_true rfl) dX12_cancel_2 h (fun r1 M2 h => ?_)
  refine g_ifne (tgt := 11) X dX12_cancel_5 (by decide) h (fun h => ?_) (fun h => ?_)
  · refine g_iload_n X dX12_cancel_11 rfl 2 rfl ?_
    refine g_ifeq (tgt := 29) X dX12_cancel_12 (by decide) h (fun h => ?_) (fun h => ?_)
    · exact (k_X12_cancel_b29 X hQ  h)
    · refine g_iload_n X dX12_cancel_15 rfl 2 rfl ?_
      refine g_i2l X dX12_cancel_16 ?_
      refine g_ldc2 X dX12_cancel_17 m670 ?_
      refine g_ldc2 X dX12_cancel_20 m685 ?_
      refine cl_X12_103 X (by decide) (Nat.le_of_ble_eq_true rfl) dX12_cancel_23 h (fun r3 M4 h => ?_)
      refine g_ifeq (tgt := 38) X dX12_cancel_26 (by decide) h (fun h => ?_) (fun h => ?_)
      · refine g_bipush (v := (-102)) X dX12_cancel_38 (by decide) ?_
        exact g_iret X hQ dX12_cancel_40 h
      · exact (k_X12_cancel_b29 X hQ  h)
  · refine g_bipush (v := (-101)) X dX12_cancel_8 (by decide) ?_
    exact g_iret X hQ dX12_cancel_10 h
theorem cw_X12_owesThen : CW yX12_owesThen cX12_owesThen 4 (some .int) 1 := ⟨m714, m499, Nat.le_of_ble_eq_true rfl, by decide +kernel⟩
def wp_X12_owesThen_b40 (Post : Int32 → Mem → Prop) (v1 : Int32) (P4 : Mem → Int32 → Int32 → Prop) (M : Mem) (v3 : Int32) (s0 : Int32) : Prop :=
 ∀ x2_5 : Int32, x2_5 = s0 + 0 →
 ∀ x3_6 : Int32, x3_6 = v3 + 1 →
 P4 M x2_5 x3_6
def wp_X12_owesThen_b4 (Post : Int32 → Mem → Prop) (v1 : Int32) (P4 : Mem → Int32 → Int32 → Prop) (M : Mem) (v2 : Int32) (v3 : Int32) : Prop :=
 ((rd M 29 7) ≤ v3 →
  Post v2 M) ∧
 (¬ (rd M 29 7) ≤ v3 →
  vp_in v3 4 ∧
  (¬ (rd M 38 v3.toNatClampNeg) = v1 →
   wp_X12_owesThen_b40 Post v1 P4 M v3 v2) ∧
  ((rd M 38 v3.toNatClampNeg) = v1 →
   vp_in v3 4 ∧
   (¬ (rd M 45 v3.toNatClampNeg) = 0 →
    wp_X12_owesThen_b40 Post v1 P4 M v3 v2) ∧
   ((rd M 45 v3.toNatClampNeg) = 0 →
    wp_X12_costs (fun r1 M2 =>
     ∀ x2_3 : Int32, x2_3 = v2 + r1 →
     ∀ x3_4 : Int32, x3_4 = v3 + 1 →
     P4 M2 x2_3 x3_4) M v3)))
def wp_X12_owesThen (Post : Int32 → Mem → Prop) (M : Mem) (v1 : Int32) : Prop :=
 ∀ (P4 : Mem → Int32 → Int32 → Prop) ,
  (∀ (M : Mem) (v2 : Int32) (v3 : Int32), wp_X12_owesThen_b4 Post v1 P4 M v2 v3 → P4 M v2 v3) →
 P4 M 0 0
theorem k_X12_owesThen_b40 {E : Ek} {x : MC} (X : Cx E x cX12_owesThen 4 RX12 2) {Post : Int32 → Mem → Prop} (hQ : QI E x Post (some .int)) {v1 : Int32} {M : Mem} {v3 : Int32} {s0 : Int32} (h : wp_X12_owesThen_b40 Post v1 (fun M v2 v3 => G E x M 4 [(0, .ref (ad E 29)), (1, .int v1), (2, .int v2), (3, .int v3)] []) M v3 s0) : G E x M 40 [(0, .ref (ad E 29)), (1, .int v1), (3, .int v3)] [.int s0] := by
  refine g_iconst (v := 0) X dX12_owesThen_40 (by decide) ?_
  refine g_iadd X dX12_owesThen_41 ?_
  refine g_nm h (fun x2_5 h => ?_)
  refine g_istore_n (lv' := [(0, .ref (ad E 29)), (1, .int v1), (2, .int x2_5), (3, .int v3)]) X dX12_owesThen_42 rfl (Nat.le_of_ble_eq_true rfl) rfl rfl ?_
  refine g_iinc (w := 1) X dX12_owesThen_43 3 rfl (by decide) (Nat.le_of_ble_eq_true rfl) rfl (fun x3_6 => [(0, .ref (ad E 29)), (1, .int v1), (2, .int x2_5), (3, .int x3_6)]) (fun _ => rfl) h (fun x3_6 h => ?_)
  refine g_goto (tgt := 4) X dX12_owesThen_46 (by decide) ?_
  exact h
theorem k_X12_owesThen_b4 {E : Ek} {x : MC} (X : Cx E x cX12_owesThen 4 RX12 2) {Post : Int32 → Mem → Prop} (hQ : QI E x Post (some .int)) {v1 : Int32} {M : Mem} {v2 : Int32} {v3 : Int32} (h : wp_X12_owesThen_b4 Post v1 (fun M v2 v3 => G E x M 4 [(0, .ref (ad E 29)), (1, .int v1), (2, .int v2), (3, .int v3)] []) M v2 v3) : G E x M 4 [(0, .ref (ad E 29)), (1, .int v1), (2, .int v2), (3, .int v3)] [] := by
  refine g_iload_n X dX12_owesThen_4 rfl 3 rfl ?_
  refine g_aload_n X dX12_owesThen_5 rfl 0 rfl ?_
  refine fg_X12_162 X dX12_owesThen_6 ?_
  refine g_icmpge (tgt := 49) X dX12_owesThen_9 (by decide) h (fun h => ?_) (fun h => ?_)
  · refine g_iload_n X dX12_owesThen_49 rfl 2 rfl ?_
    exact g_iret X hQ dX12_owesThen_50 h
  · refine g_iload_n X dX12_owesThen_12 rfl 2 rfl ?_
    refine g_aload_n X dX12_owesThen_13 rfl 0 rfl ?_
    refine fg_X12_34 X dX12_owesThen_14 ?_
    refine g_iload_n X dX12_owesThen_17 rfl 3 rfl ?_
    refine g_iald X ia_38 dX12_owesThen_18 h (fun h => ?_)
    refine g_iload_n X dX12_owesThen_19 rfl 1 rfl ?_
    refine g_icmpne (tgt := 40) X dX12_owesThen_20 (by decide) h (fun h => ?_) (fun h => ?_)
    · exact g_sub [0, 1, 3] rfl (k_X12_owesThen_b40 X hQ  h)
    · refine g_aload_n X dX12_owesThen_23 rfl 0 rfl ?_
      refine fg_X12_55 X dX12_owesThen_24 ?_
      refine g_iload_n X dX12_owesThen_27 rfl 3 rfl ?_
      refine g_iald X ia_45 dX12_owesThen_28 h (fun h => ?_)
      refine g_ifne (tgt := 40) X dX12_owesThen_29 (by decide) h (fun h => ?_) (fun h => ?_)
      · exact g_sub [0, 1, 3] rfl (k_X12_owesThen_b40 X hQ  h)
      · refine g_aload_n X dX12_owesThen_32 rfl 0 rfl ?_
        refine g_iload_n X dX12_owesThen_33 rfl 3 rfl ?_
        refine cl_X12_184 X (by decide) (Nat.le_of_ble_eq_true rfl) dX12_owesThen_34 h (fun r1 M2 h => ?_)
        refine g_goto (tgt := 41) X dX12_owesThen_37 (by decide) ?_
        refine g_iadd X dX12_owesThen_41 ?_
        refine g_nm h (fun x2_3 h => ?_)
        refine g_istore_n (lv' := [(0, .ref (ad E 29)), (1, .int v1), (2, .int x2_3), (3, .int v3)]) X dX12_owesThen_42 rfl (Nat.le_of_ble_eq_true rfl) rfl rfl ?_
        refine g_iinc (w := 1) X dX12_owesThen_43 3 rfl (by decide) (Nat.le_of_ble_eq_true rfl) rfl (fun x3_4 => [(0, .ref (ad E 29)), (1, .int v1), (2, .int x2_3), (3, .int x3_4)]) (fun _ => rfl) h (fun x3_4 h => ?_)
        refine g_goto (tgt := 4) X dX12_owesThen_46 (by decide) ?_
        exact h
theorem w_X12_owesThen (E : Ek) (l : Launch) {v1 : Int32} {M : Mem} {Post : Int32 → Mem → Prop} (h : wp_X12_owesThen Post M v1) : ctI E l yX12_owesThen cX12_owesThen 4 (some .int) 2 [.ref (ad E 29), .int v1] M Post := by
  refine ct_of (by decide) (Nat.le_of_ble_eq_true rfl) (fun x X hQ => ?_)
  have h := h (fun M v2 v3 => G E x M 4 [(0, .ref (ad E 29)), (1, .int v1), (2, .int v2), (3, .int v3)] []) (fun M v2 v3 h => k_X12_owesThen_b4 X hQ  h)
  change G E x M 0 [(0, .ref (ad E 29)), (1, .int v1)] []
  refine g_iconst (v := 0) X dX12_owesThen_0 (by decide) ?_
  refine g_istore_n (lv' := [(0, .ref (ad E 29)), (1, .int v1), (2, .int 0)]) X dX12_owesThen_1 rfl (Nat.le_of_ble_eq_true rfl) rfl rfl ?_
  refine g_iconst (v := 0) X dX12_owesThen_2 (by decide) ?_
  refine g_istore_n (lv' := [(0, .ref (ad E 29)), (1, .int v1), (2, .int 0), (3, .int 0)]) X dX12_owesThen_3 rfl (Nat.le_of_ble_eq_true rfl) rfl rfl ?_
  exact h
theorem cl_X12_283 {E : Ek} {x : MC} {cc : ByteArray} {nL hm pc : Nat} {M : Mem} {lv : List (Nat × Value)} {st : List Value} (X : Cx E x cc nL RX12 hm) {v1 : Int32} {Post : Int32 → Mem → Prop} (hr : 2 < hm) (hW : (st.map fun v => v.category).sum ≤ 8) (hd : decode cc pc = .ok (.invokevirtual 283, 3)) (h : wp_X12_owesThen Post M v1) (kk : ∀ r M1, Post r M1 → G E x M1 (pc + 3) lv (.int r :: st)) : G E x M pc lv (.int v1 :: .ref (ad E 29) :: st) := k_I (fun hP hS hL => run_V X (w_X12_owesThen E (xl x)  h) cw_X12_owesThen m715 m716 m717 (⟨by decide, fun E f h => ⟨_, _, _, rfl, rfl, rfl⟩⟩ : OC 29 RX12) hr rfl hd hW hP hS hL) kk
theorem cw_X12_soundOf : CW yX12_soundOf cX12_soundOf 5 (some .int) 0 := ⟨m718, m499, Nat.le_of_ble_eq_true rfl, by decide +kernel⟩
def wp_X12_soundOf_b106 (Post : Int32 → Mem → Prop) (P6 : Mem → Int32 → Prop) (P13 : Mem → Int32 → Int32 → Prop) (P44 : Mem → Int32 → Int32 → Int32 → Int32 → Prop) (P106 : Mem → Int32 → Int32 → Prop) (M : Mem) (v1 : Int32) (v2 : Int32) : Prop :=
 ((rd M 29 6) ≤ v2 →
  Post v1 M) ∧
 (¬ (rd M 29 6) ≤ v2 →
  wp_X12_owesThen (fun r13 M14 =>
   (¬ r13 = 0 →
    ∀ x1_15 : Int32, x1_15 = v1 ||| 0 →
    ∀ x2_16 : Int32, x2_16 = v2 + 1 →
    P106 M14 x1_15 x2_16) ∧
   (r13 = 0 →
    ∀ x1_17 : Int32, x1_17 = v1 ||| ((1 : Int32) <<< (v2 &&& 31)) →
    ∀ x2_18 : Int32, x2_18 = v2 + 1 →
    P106 M14 x1_17 x2_18)) M v2)
def wp_X12_soundOf_b44 (Post : Int32 → Mem → Prop) (P6 : Mem → Int32 → Prop) (P13 : Mem → Int32 → Int32 → Prop) (P44 : Mem → Int32 → Int32 → Int32 → Int32 → Prop) (P106 : Mem → Int32 → Int32 → Prop) (M : Mem) (v1 : Int32) (v2 : Int32) (v3 : Int32) (v4 : Int32) : Prop :=
 ((rd M 29 7) ≤ v4 →
  ∀ x2_6 : Int32, x2_6 = v2 + 1 →
  P13 M v1 x2_6) ∧
 (¬ (rd M 29 7) ≤ v4 →
  (v3 = 0 →
   ∀ x2_7 : Int32, x2_7 = v2 + 1 →
   P13 M v1 x2_7) ∧
  (¬ v3 = 0 →
   vp_in v4 4 ∧
   (¬ (rd M 38 v4.toNatClampNeg) = v2 →
    ∀ x4_8 : Int32, x4_8 = v4 + 1 →
    P44 M v1 v2 v3 x4_8) ∧
   ((rd M 38 v4.toNatClampNeg) = v2 →
    vp_in v4 4 ∧
    (¬ (rd M 45 v4.toNatClampNeg) = 0 →
     ∀ x4_9 : Int32, x4_9 = v4 + 1 →
     P44 M v1 v2 v3 x4_9) ∧
    ((rd M 45 v4.toNatClampNeg) = 0 →
     wp_X12_payThen (fun M11 =>
      ∀ x4_12 : Int32, x4_12 = v4 + 1 →
      P44 M11 v1 v2 v3 x4_12) M v4))))
def wp_X12_soundOf_b13 (Post : Int32 → Mem → Prop) (P6 : Mem → Int32 → Prop) (P13 : Mem → Int32 → Int32 → Prop) (P44 : Mem → Int32 → Int32 → Int32 → Int32 → Prop) (P106 : Mem → Int32 → Int32 → Prop) (M : Mem) (v1 : Int32) (v2 : Int32) : Prop :=
 ((rd M 29 6) ≤ v2 →
  ∀ x1_3 : Int32, x1_3 = v1 + 1 →
  P6 M x1_3) ∧
 (¬ (rd M 29 6) ≤ v2 →
  vp_in v2 4 ∧
  wp_X12_owesThen (fun r4 M5 =>
   ((rd M 43 v2.toNatClampNeg) < r4 →
    P44 M5 v1 v2 0 0) ∧
   (¬ (rd M 43 v2.toNatClampNeg) < r4 →
    P44 M5 v1 v2 1 0)) M v2)
def wp_X12_soundOf_b6 (Post : Int32 → Mem → Prop) (P6 : Mem → Int32 → Prop) (P13 : Mem → Int32 → Int32 → Prop) (P44 : Mem → Int32 → Int32 → Int32 → Int32 → Prop) (P106 : Mem → Int32 → Int32 → Prop) (M : Mem) (v1 : Int32) : Prop :=
 (4 ≤ v1 →
  P106 M 0 0) ∧
 (¬ 4 ≤ v1 →
  P13 M v1 0)
def wp_X12_soundOf (Post : Int32 → Mem → Prop) (M : Mem) : Prop :=
 ∀ (P6 : Mem → Int32 → Prop) (P13 : Mem → Int32 → Int32 → Prop) (P44 : Mem → Int32 → Int32 → Int32 → Int32 → Prop) (P106 : Mem → Int32 → Int32 → Prop) ,
  (∀ (M : Mem) (v1 : Int32), wp_X12_soundOf_b6 Post P6 P13 P44 P106 M v1 → P6 M v1) →
  (∀ (M : Mem) (v1 : Int32) (v2 : Int32), wp_X12_soundOf_b13 Post P6 P13 P44 P106 M v1 v2 → P13 M v1 v2) →
  (∀ (M : Mem) (v1 : Int32) (v2 : Int32) (v3 : Int32) (v4 : Int32), wp_X12_soundOf_b44 Post P6 P13 P44 P106 M v1 v2 v3 v4 → P44 M v1 v2 v3 v4) →
  (∀ (M : Mem) (v1 : Int32) (v2 : Int32), wp_X12_soundOf_b106 Post P6 P13 P44 P106 M v1 v2 → P106 M v1 v2) →
 wp_X12_begin (fun M2 =>
  P6 M2 0) M 
theorem k_X12_soundOf_b106 {E : Ek} {x : MC} (X : Cx E x cX12_soundOf 5 RX12 3) {Post : Int32 → Mem → Prop} (hQ : QI E x Post (some .int)) {M : Mem} {v1 : Int32} {v2 : Int32} (h : wp_X12_soundOf_b106 Post (fun M v1 => G E x M 6 [(0, .ref (ad E 29)), (1, .int v1)] []) (fun M v1 v2 => G E x M 13 [(0, .ref (ad E 29)), (1, .int v1), (2, .int v2)] []) (fun M v1 v2 v3 v4 => G E x M 44 [(0, .ref (ad E 29)), (1, .int v1), (2, .int v2), (3, .int v3), (4, .int v4)] []) (fun M v1 v2 => G E x M 106 [(0, .ref (ad E 29)), (1, .int v1), (2, .int v2)] []) M v1 v2) : G E x M 106 [(0, .ref (ad E 29)), (1, .int v1), (2, .int v2)] [] := by
  refine g_iload_n X dX12_soundOf_106 rfl 2 rfl ?_
  refine g_aload_n X dX12_soundOf_107 rfl 0 rfl ?_
  refine fg_X12_159 X dX12_soundOf_108 ?_
  refine g_icmpge (tgt := 138) X dX12_soundOf_111 (by decide) h (fun h => ?_) (fun h => ?_)
  · refine g_iload_n X dX12_soundOf_138 rfl 1 rfl ?_
    exact g_iret X hQ dX12_soundOf_139 h
  · refine g_iload_n X dX12_soundOf_114 rfl 1 rfl ?_
    refine g_aload_n X dX12_soundOf_115 rfl 0 rfl ?_
    refine g_iload_n X dX12_soundOf_116 rfl 2 rfl ?_
    refine cl_X12_283 X (by decide) (Nat.le_of_ble_eq_true rfl) dX12_soundOf_117 h (fun r13 M14 h => ?_)
    refine g_ifne (tgt := 129) X dX12_soundOf_120 (by decide) h (fun h => ?_) (fun h => ?_)
    · refine g_iconst (v := 0) X dX12_soundOf_129 (by decide) ?_
      refine g_ior X dX12_soundOf_130 ?_
      refine g_nm h (fun x1_15 h => ?_)
      refine g_istore_n (lv' := [(0, .ref (ad E 29)), (1, .int x1_15), (2, .int v2)]) X dX12_soundOf_131 rfl (Nat.le_of_ble_eq_true rfl) rfl rfl ?_
      refine g_iinc (w := 1) X dX12_soundOf_132 2 rfl (by decide) (Nat.le_of_ble_eq_true rfl) rfl (fun x2_16 => [(0, .ref (ad E 29)), (1, .int x1_15), (2, .int x2_16)]) (fun _ => rfl) h (fun x2_16 h => ?_)
      refine g_goto (tgt := 106) X dX12_soundOf_135 (by decide) ?_
      exact h
    · refine g_iconst (v := 1) X dX12_soundOf_123 (by decide) ?_
      refine g_iload_n X dX12_soundOf_124 rfl 2 rfl ?_
      refine g_ishl X dX12_soundOf_125 ?_
      refine g_goto (tgt := 130) X dX12_soundOf_126 (by decide) ?_
      refine g_ior X dX12_soundOf_130 ?_
      refine g_nm h (fun x1_17 h => ?_)
      refine g_istore_n (lv' := [(0, .ref (ad E 29)), (1, .int x1_17), (2, .int v2)]) X dX12_soundOf_131 rfl (Nat.le_of_ble_eq_true rfl) rfl rfl ?_
      refine g_iinc (w := 1) X dX12_soundOf_132 2 rfl (by decide) (Nat.le_of_ble_eq_true rfl) rfl (fun x2_18 => [(0, .ref (ad E 29)), (1, .int x1_17), (2, .int x2_18)]) (fun _ => rfl) h (fun x2_18 h => ?_)
      refine g_goto (tgt := 106) X dX12_soundOf_135 (by decide) ?_
      exact h
theorem k_X12_soundOf_b44 {E : Ek} {x : MC} (X : Cx E x cX12_soundOf 5 RX12 3) {Post : Int32 → Mem → Prop} (hQ : QI E x Post (some .int)) {M : Mem} {v1 : Int32} {v2 : Int32} {v3 : Int32} {v4 : Int32} (h : wp_X12_soundOf_b44 Post (fun M v1 => G E x M 6 [(0, .ref (ad E 29)), (1, .int v1)] []) (fun M v1 v2 => G E x M 13 [(0, .ref (ad E 29)), (1, .int v1), (2, .int v2)] []) (fun M v1 v2 v3 v4 => G E x M 44 [(0, .ref (ad E 29)), (1, .int v1), (2, .int v2), (3, .int v3), (4, .int v4)] []) (fun M v1 v2 => G E x M 106 [(0, .ref (ad E 29)), (1, .int v1), (2, .int v2)] []) M v1 v2 v3 v4) : G E x M 44 [(0, .ref (ad E 29)), (1, .int v1), (2, .int v2), (3, .int v3), (4, .int v4)] [] := by
  refine g_iload X dX12_soundOf_44 4 rfl ?_
  refine g_aload_n X dX12_soundOf_46 rfl 0 rfl ?_
  refine fg_X12_162 X dX12_soundOf_47 ?_
  refine g_icmpge (tgt := 90) X dX12_soundOf_50 (by decide) h (fun h => ?_) (fun h => ?_)
  · refine g_iinc (w := 1) X dX12_soundOf_90 2 rfl (by decide) (Nat.le_of_ble_eq_true rfl) rfl (fun x2_6 => [(0, .ref (ad E 29)), (1, .int v1), (2, .int x2_6), (3, .int v3), (4, .int v4)]) (fun _ => rfl) h (fun x2_6 h => ?_)
    refine g_goto (tgt := 13) X dX12_soundOf_93 (by decide) ?_
    exact g_sub [0, 1, 2] rfl h
  · refine g_iload_n X dX12_soundOf_53 rfl 3 rfl ?_
    refine g_ifeq (tgt := 90) X dX12_soundOf_54 (by decide) h (fun h => ?_) (fun h => ?_)
    · refine g_iinc (w := 1) X dX12_soundOf_90 2 rfl (by decide) (Nat.le_of_ble_eq_true rfl) rfl (fun x2_7 => [(0, .ref (ad E 29)), (1, .int v1), (2, .int x2_7), (3, .int v3), (4, .int v4)]) (fun _ => rfl) h (fun x2_7 h => ?_)
      refine g_goto (tgt := 13) X dX12_soundOf_93 (by decide) ?_
      exact g_sub [0, 1, 2] rfl h
    · refine g_aload_n X dX12_soundOf_57 rfl 0 rfl ?_
      refine fg_X12_34 X dX12_soundOf_58 ?_
      refine g_iload X dX12_soundOf_61 4 rfl ?_
      refine g_iald X ia_38 dX12_soundOf_63 h (fun h => ?_)
      refine g_iload_n X dX12_soundOf_64 rfl 2 rfl ?_
      refine g_icmpne (tgt := 84) X dX12_soundOf_65 (by decide) h (fun h => ?_) (fun h => ?_)
      · refine g_iinc (w := 1) X dX12_soundOf_84 4 rfl (by decide) (Nat.le_of_ble_eq_true rfl) rfl (fun x4_8 => [(0, .ref (ad E 29)), (1, .int v1), (2, .int v2), (3, .int v3), (4, .int x4_8)]) (fun _ => rfl) h (fun x4_8 h => ?_)
        refine g_goto (tgt := 44) X dX12_soundOf_87 (by decide) ?_
        exact h
      · refine g_aload_n X dX12_soundOf_68 rfl 0 rfl ?_
        refine fg_X12_55 X dX12_soundOf_69 ?_
        refine g_iload X dX12_soundOf_72 4 rfl ?_
        refine g_iald X ia_45 dX12_soundOf_74 h (fun h => ?_)
        refine g_ifne (tgt := 84) X dX12_soundOf_75 (by decide) h (fun h => ?_) (fun h => ?_)
        · refine g_iinc (w := 1) X dX12_soundOf_84 4 rfl (by decide) (Nat.le_of_ble_eq_true rfl) rfl (fun x4_9 => [(0, .ref (ad E 29)), (1, .int v1), (2, .int v2), (3, .int v3), (4, .int x4_9)]) (fun _ => rfl) h (fun x4_9 h => ?_)
          refine g_goto (tgt := 44) X dX12_soundOf_87 (by decide) ?_
          exact h
        · refine g_aload_n X dX12_soundOf_78 rfl 0 rfl ?_
          refine g_iload X dX12_soundOf_79 4 rfl ?_
          refine cl_X12_236 X (by decide) (Nat.le_of_ble_eq_true rfl) dX12_soundOf_81 h (fun M11 h => ?_)
          refine g_iinc (w := 1) X dX12_soundOf_84 4 rfl (by decide) (Nat.le_of_ble_eq_true rfl) rfl (fun x4_12 => [(0, .ref (ad E 29)), (1, .int v1), (2, .int v2), (3, .int v3), (4, .int x4_12)]) (fun _ => rfl) h (fun x4_12 h => ?_)
          refine g_goto (tgt := 44) X dX12_soundOf_87 (by decide) ?_
          exact h
theorem k_X12_soundOf_b13 {E : Ek} {x : MC} (X : Cx E x cX12_soundOf 5 RX12 3) {Post : Int32 → Mem → Prop} (hQ : QI E x Post (some .int)) {M : Mem} {v1 : Int32} {v2 : Int32} (h : wp_X12_soundOf_b13 Post (fun M v1 => G E x M 6 [(0, .ref (ad E 29)), (1, .int v1)] []) (fun M v1 v2 => G E x M 13 [(0, .ref (ad E 29)), (1, .int v1), (2, .int v2)] []) (fun M v1 v2 v3 v4 => G E x M 44 [(0, .ref (ad E 29)), (1, .int v1), (2, .int v2), (3, .int v3), (4, .int v4)] []) (fun M v1 v2 => G E x M 106 [(0, .ref (ad E 29)), (1, .int v1), (2, .int v2)] []) M v1 v2) : G E x M 13 [(0, .ref (ad E 29)), (1, .int v1), (2, .int v2)] [] := by
  refine g_iload_n X dX12_soundOf_13 rfl 2 rfl ?_
  refine g_aload_n X dX12_soundOf_14 rfl 0 rfl ?_
  refine fg_X12_159 X dX12_soundOf_15 ?_
  refine g_icmpge (tgt := 96) X dX12_soundOf_18 (by decide) h (fun h => ?_) (fun h => ?_)
  · refine g_iinc (w := 1) X dX12_soundOf_96 1 rfl (by decide) (Nat.le_of_ble_eq_true rfl) rfl (fun x1_3 => [(0, .ref (ad E 29)), (1, .int x1_3), (2, .int v2)]) (fun _ => rfl) h (fun x1_3 h => ?_)
    refine g_goto (tgt := 6) X dX12_soundOf_99 (by decide) ?_
    exact g_sub [0, 1] rfl h
  · refine g_aload_n X dX12_soundOf_21 rfl 0 rfl ?_
    refine fg_X12_49 X dX12_soundOf_22 ?_
    refine g_iload_n X dX12_soundOf_25 rfl 2 rfl ?_
    refine g_iald X ia_43 dX12_soundOf_26 h (fun h => ?_)
    refine g_aload_n X dX12_soundOf_27 rfl 0 rfl ?_
    refine g_iload_n X dX12_soundOf_28 rfl 2 rfl ?_
    refine cl_X12_283 X (by decide) (Nat.le_of_ble_eq_true rfl) dX12_soundOf_29 h (fun r4 M5 h => ?_)
    refine g_icmplt (tgt := 39) X dX12_soundOf_32 (by decide) h (fun h => ?_) (fun h => ?_)
    · refine g_iconst (v := 0) X dX12_soundOf_39 (by decide) ?_
      refine g_istore_n (lv' := [(0, .ref (ad E 29)), (1, .int v1), (2, .int v2), (3, .int 0)]) X dX12_soundOf_40 rfl (Nat.le_of_ble_eq_true rfl) rfl rfl ?_
      refine g_iconst (v := 0) X dX12_soundOf_41 (by decide) ?_
      refine g_istore (lv' := [(0, .ref (ad E 29)), (1, .int v1), (2, .int v2), (3, .int 0), (4, .int 0)]) X dX12_soundOf_42 (Nat.le_of_ble_eq_true rfl) rfl rfl ?_
      exact h
    · refine g_iconst (v := 1) X dX12_soundOf_35 (by decide) ?_
      refine g_goto (tgt := 40) X dX12_soundOf_36 (by decide) ?_
      refine g_istore_n (lv' := [(0, .ref (ad E 29)), (1, .int v1), (2, .int v2), (3, .int 1)]) X dX12_soundOf_40 rfl (Nat.le_of_ble_eq_true rfl) rfl rfl ?_
      refine g_iconst (v := 0) X dX12_soundOf_41 (by decide) ?_
      refine g_istore (lv' := [(0, .ref (ad E 29)), (1, .int v1), (2, .int v2), (3, .int 1), (4, .int 0)]) X dX12_soundOf_42 (Nat.le_of_ble_eq_true rfl) rfl rfl ?_
      exact h
theorem k_X12_soundOf_b6 {E : Ek} {x : MC} (X : Cx E x cX12_soundOf 5 RX12 3) {Post : Int32 → Mem → Prop} (hQ : QI E x Post (some .int)) {M : Mem} {v1 : Int32} (h : wp_X12_soundOf_b6 Post (fun M v1 => G E x M 6 [(0, .ref (ad E 29)), (1, .int v1)] []) (fun M v1 v2 => G E x M 13 [(0, .ref (ad E 29)), (1, .int v1), (2, .int v2)] []) (fun M v1 v2 v3 v4 => G E x M 44 [(0, .ref (ad E 29)), (1, .int v1), (2, .int v2), (3, .int v3), (4, .int v4)] []) (fun M v1 v2 => G E x M 106 [(0, .ref (ad E 29)), (1, .int v1), (2, .int v2)] []) M v1) : G E x M 6 [(0, .ref (ad E 29)), (1, .int v1)] [] := by
  refine g_iload_n X dX12_soundOf_6 rfl 1 rfl ?_
  refine g_iconst (v := 4) X dX12_soundOf_7 (by decide) ?_
  refine g_icmpge (tgt := 102) X dX12_soundOf_8 (by decide) h (fun h => ?_) (fun h => ?_)
  · refine g_iconst (v := 0) X dX12_soundOf_102 (by decide) ?_
    refine g_istore_n (lv' := [(0, .ref (ad E 29)), (1, .int 0)]) X dX12_soundOf_103 rfl (Nat.le_of_ble_eq_true rfl) rfl rfl ?_
    refine g_iconst (v := 0) X dX12_soundOf_104 (by decide) ?_
    refine g_istore_n (lv' := [(0, .ref (ad E 29)), (1, .int 0), (2, .int 0)]) X dX12_soundOf_105 rfl (Nat.le_of_ble_eq_true rfl) rfl rfl ?_
    exact h
  · refine g_iconst (v := 0) X dX12_soundOf_11 (by decide) ?_
    refine g_istore_n (lv' := [(0, .ref (ad E 29)), (1, .int v1), (2, .int 0)]) X dX12_soundOf_12 rfl (Nat.le_of_ble_eq_true rfl) rfl rfl ?_
    exact h
theorem w_X12_soundOf (E : Ek) (l : Launch) {M : Mem} {Post : Int32 → Mem → Prop} (h : wp_X12_soundOf Post M ) : ctI E l yX12_soundOf cX12_soundOf 5 (some .int) 3 [.ref (ad E 29)] M Post := by
  refine ct_of (by decide) (Nat.le_of_ble_eq_true rfl) (fun x X hQ => ?_)
  have h := h (fun M v1 => G E x M 6 [(0, .ref (ad E 29)), (1, .int v1)] []) (fun M v1 v2 => G E x M 13 [(0, .ref (ad E 29)), (1, .int v1), (2, .int v2)] []) (fun M v1 v2 v3 v4 => G E x M 44 [(0, .ref (ad E 29)), (1, .int v1), (2, .int v2), (3, .int v3), (4, .int v4)] []) (fun M v1 v2 => G E x M 106 [(0, .ref (ad E 29)), (1, .int v1), (2, .int v2)] []) (fun M v1 h => k_X12_soundOf_b6 X hQ  h) (fun M v1 v2 h => k_X12_soundOf_b13 X hQ  h) (fun M v1 v2 v3 v4 h => k_X12_soundOf_b44 X hQ  h) (fun M v1 v2 h => k_X12_soundOf_b106 X hQ  h)
  change G E x M 0 [(0, .ref (ad E 29))] []
  refine g_aload_n X dX12_soundOf_0 rfl 0 rfl ?_
  refine cl_X12_191 X (by decide) (Nat.le_of_ble_eq_true rfl) dX12_soundOf_1 h (fun M2 h => ?_)
  refine g_iconst (v := 0) X dX12_soundOf_4 (by decide) ?_
  refine g_istore_n (lv' := [(0, .ref (ad E 29)), (1, .int 0)]) X dX12_soundOf_5 rfl (Nat.le_of_ble_eq_true rfl) rfl rfl ?_
  exact h
theorem cl_X12_290 {E : Ek} {x : MC} {cc : ByteArray} {nL hm pc : Nat} {M : Mem} {lv : List (Nat × Value)} {st : List Value} (X : Cx E x cc nL RX12 hm) {Post : Int32 → Mem → Prop} (hr : 3 < hm) (hW : (st.map fun v => v.category).sum ≤ 8) (hd : decode cc pc = .ok (.invokevirtual 290, 3)) (h : wp_X12_soundOf Post M ) (kk : ∀ r M1, Post r M1 → G E x M1 (pc + 3) lv (.int r :: st)) : G E x M pc lv (.ref (ad E 29) :: st) := k_I (fun hP hS hL => run_V X (w_X12_soundOf E (xl x)  h) cw_X12_soundOf m722 m723 m724 (⟨by decide, fun E f h => ⟨_, _, _, rfl, rfl, rfl⟩⟩ : OC 29 RX12) hr rfl hd hW hP hS hL) kk
theorem cw_X12_sound : CW yX12_sound cX12_sound 1 (some .int) 0 := ⟨m725, m499, Nat.le_of_ble_eq_true rfl, by decide +kernel⟩
def wp_X12_sound (Post : Int32 → Mem → Prop) (M : Mem) : Prop :=
 wp_X12_lacks (fun r1 M2 =>
  (r1 = 0 →
   wp_X12_soundOf (fun r3 M4 =>
    Post r3 M4) M2 ) ∧
  (¬ r1 = 0 →
   Post (-103) M2)) M 
theorem w_X12_sound (E : Ek) (l : Launch) {M : Mem} {Post : Int32 → Mem → Prop} (h : wp_X12_sound Post M ) : ctI E l yX12_sound cX12_sound 1 (some .int) 4 [.ref (ad E 29)] M Post := by
  refine ct_of (by decide) (Nat.le_of_ble_eq_true rfl) (fun x X hQ => ?_)
  change G E x M 0 [(0, .ref (ad E 29))] []
  refine g_aload_n X dX12_sound_0 rfl 0 rfl ?_
  refine cl_X12_286 X (by decide) (Nat.le_of_ble_eq_true rfl) dX12_sound_1 h (fun r1 M2 h => ?_)
  refine g_ifeq (tgt := 12) X dX12_sound_4 (by decide) h (fun h => ?_) (fun h => ?_)
  · refine g_aload_n X dX12_sound_12 rfl 0 rfl ?_
    refine cl_X12_290 X (by decide) (Nat.le_of_ble_eq_true rfl) dX12_sound_13 h (fun r3 M4 h => ?_)
    exact g_iret X hQ dX12_sound_16 h
  · refine g_bipush (v := (-103)) X dX12_sound_7 (by decide) ?_
    refine g_goto (tgt := 16) X dX12_sound_9 (by decide) ?_
    exact g_iret X hQ dX12_sound_16 h
theorem cw_X12_goAll : CW yX12_goAll cX12_goAll 6 none 2 := ⟨m728, m499, Nat.le_of_ble_eq_true rfl, by decide +kernel⟩
def wp_X12_goAll_b69 (Post : Mem → Prop) (v1 : Int32) (v2 : Int32) (P5 : Mem → Int32 → Int32 → Prop) (P69 : Mem → Int32 → Int32 → Prop) (M : Mem) (v3 : Int32) (v4 : Int32) : Prop :=
 ((rd M 29 5) ≤ v4 →
  Post M) ∧
 (¬ (rd M 29 5) ≤ v4 →
  wp_X12_through (fun r9 M10 =>
   (r9 = (-1) →
    ∀ x4_11 : Int32, x4_11 = v4 + 1 →
    P69 M10 v3 x4_11) ∧
   (¬ r9 = (-1) →
    vp_in r9 6 ∧
    ¬ v3 = 0 ∧
    vp_in v2 6 ∧
    vp_in r9 6 ∧
    ∀ M12 : Mem, M12 = wr M10 51 r9.toNatClampNeg ((rd M10 51 r9.toNatClampNeg) + (((60 : Int32) / v3) * (rd M10 50 v2.toNatClampNeg))) →
    ∀ x4_13 : Int32, x4_13 = v4 + 1 →
    P69 M12 v3 x4_13)) M v1 v4 v2)
def wp_X12_goAll_b5 (Post : Mem → Prop) (v1 : Int32) (v2 : Int32) (P5 : Mem → Int32 → Int32 → Prop) (P69 : Mem → Int32 → Int32 → Prop) (M : Mem) (v3 : Int32) (v4 : Int32) : Prop :=
 ((rd M 29 5) ≤ v4 →
  vp_in v2 6 ∧
  (¬ v3 = 0 →
   vp_in v2 6 ∧
   ∀ M1 : Mem, M1 = wr M 51 v2.toNatClampNeg ((rd M 51 v2.toNatClampNeg) + 0) →
   P69 M1 v3 0) ∧
  (v3 = 0 →
   vp_in v2 6 ∧
   vp_in v2 6 ∧
   ∀ M2 : Mem, M2 = wr M 51 v2.toNatClampNeg ((rd M 51 v2.toNatClampNeg) + ((60 : Int32) * (rd M 50 v2.toNatClampNeg))) →
   P69 M2 v3 0)) ∧
 (¬ (rd M 29 5) ≤ v4 →
  wp_X12_through (fun r3 M4 =>
   (r3 = (-1) →
    ∀ x3_5 : Int32, x3_5 = v3 + 0 →
    ∀ x4_6 : Int32, x4_6 = v4 + 1 →
    P5 M4 x3_5 x4_6) ∧
   (¬ r3 = (-1) →
    ∀ x3_7 : Int32, x3_7 = v3 + 1 →
    ∀ x4_8 : Int32, x4_8 = v4 + 1 →
    P5 M4 x3_7 x4_8)) M v1 v4 v2)
def wp_X12_goAll (Post : Mem → Prop) (M : Mem) (v1 : Int32) (v2 : Int32) : Prop :=
 ∀ (P5 : Mem → Int32 → Int32 → Prop) (P69 : Mem → Int32 → Int32 → Prop) ,
  (∀ (M : Mem) (v3 : Int32) (v4 : Int32), wp_X12_goAll_b5 Post v1 v2 P5 P69 M v3 v4 → P5 M v3 v4) →
  (∀ (M : Mem) (v3 : Int32) (v4 : Int32), wp_X12_goAll_b69 Post v1 v2 P5 P69 M v3 v4 → P69 M v3 v4) →
 P5 M 0 0
theorem k_X12_goAll_b69 {E : Ek} {x : MC} (X : Cx E x cX12_goAll 6 RX12 3) {Post : Mem → Prop} (hQ : QV E x Post none) {v1 : Int32} {v2 : Int32} {M : Mem} {v3 : Int32} {v4 : Int32} (h : wp_X12_goAll_b69 Post v1 v2 (fun M v3 v4 => G E x M 5 [(0, .ref (ad E 29)), (1, .int v1), (2, .int v2), (3, .int v3), (4, .int v4)] []) (fun M v3 v4 => G E x M 69 [(0, .ref (ad E 29)), (1, .int v1), (2, .int v2), (3, .int v3), (4, .int v4)] []) M v3 v4) : G E x M 69 [(0, .ref (ad E 29)), (1, .int v1), (2, .int v2), (3, .int v3), (4, .int v4)] [] := by
  refine g_iload X dX12_goAll_69 4 rfl ?_
  refine g_aload_n X dX12_goAll_71 rfl 0 rfl ?_
  refine fg_X12_156 X dX12_goAll_72 ?_
  refine g_icmpge (tgt := 121) X dX12_goAll_75 (by decide) h (fun h => ?_) (fun h => ?_)
  · exact g_vret X hQ dX12_goAll_121 h
  · refine g_aload_n X dX12_goAll_78 rfl 0 rfl ?_
    refine g_iload_n X dX12_goAll_79 rfl 1 rfl ?_
    refine g_iload X dX12_goAll_80 4 rfl ?_
    refine g_iload_n X dX12_goAll_82 rfl 2 rfl ?_
    refine cl_X12_187 X (by decide) (Nat.le_of_ble_eq_true rfl) dX12_goAll_83 h (fun r9 M10 h => ?_)
    refine g_istore (lv' := [(0, .ref (ad E 29)), (1, .int v1), (2, .int v2), (3, .int v3), (4, .int v4), (5, .int r9)]) X dX12_goAll_86 (Nat.le_of_ble_eq_true rfl) rfl rfl ?_
    refine g_iload X dX12_goAll_88 5 rfl ?_
    refine g_iconst (v := (-1)) X dX12_goAll_90 (by decide) ?_
    refine g_icmpeq (tgt := 115) X dX12_goAll_91 (by decide) h (fun h => ?_) (fun h => ?_)
    · refine g_iinc (w := 1) X dX12_goAll_115 4 rfl (by decide) (Nat.le_of_ble_eq_true rfl) rfl (fun x4_11 => [(0, .ref (ad E 29)), (1, .int v1), (2, .int v2), (3, .int v3), (4, .int x4_11), (5, .int r9)]) (fun _ => rfl) h (fun x4_11 h => ?_)
      refine g_goto (tgt := 69) X dX12_goAll_118 (by decide) ?_
      exact g_sub [0, 1, 2, 3, 4] rfl h
    · refine g_aload_n X dX12_goAll_94 rfl 0 rfl ?_
      refine fg_X12_73 X dX12_goAll_95 ?_
      refine g_iload X dX12_goAll_98 5 rfl ?_
      refine g_dup2 X dX12_goAll_100 rfl rfl ?_
      refine g_iald X ia_51 dX12_goAll_101 h (fun h => ?_)
      refine g_bipush (v := 60) X dX12_goAll_102 (by decide) ?_
      refine g_iload_n X dX12_goAll_104 rfl 3 rfl ?_
      refine g_idiv X dX12_goAll_105 h (fun h => ?_)
      refine g_aload_n X dX12_goAll_106 rfl 0 rfl ?_
      refine fg_X12_70 X dX12_goAll_107 ?_
      refine g_iload_n X dX12_goAll_110 rfl 2 rfl ?_
      refine g_iald X ia_50 dX12_goAll_111 h (fun h => ?_)
      refine g_imul X dX12_goAll_112 ?_
      refine g_iadd X dX12_goAll_113 ?_
      refine g_iast X ia_51 dX12_goAll_114 h (fun M12 h => ?_)
      refine g_iinc (w := 1) X dX12_goAll_115 4 rfl (by decide) (Nat.le_of_ble_eq_true rfl) rfl (fun x4_13 => [(0, .ref (ad E 29)), (1, .int v1), (2, .int v2), (3, .int v3), (4, .int x4_13), (5, .int r9)]) (fun _ => rfl) h (fun x4_13 h => ?_)
      refine g_goto (tgt := 69) X dX12_goAll_118 (by decide) ?_
      exact g_sub [0, 1, 2, 3, 4] rfl h
theorem k_X12_goAll_b5 {E : Ek} {x : MC} (X : Cx E x cX12_goAll 6 RX12 3) {Post : Mem → Prop} (hQ : QV E x Post none) {v1 : Int32} {v2 : Int32} {M : Mem} {v3 : Int32} {v4 : Int32} (h : wp_X12_goAll_b5 Post v1 v2 (fun M v3 v4 => G E x M 5 [(0, .ref (ad E 29)), (1, .int v1), (2, .int v2), (3, .int v3), (4, .int v4)] []) (fun M v3 v4 => G E x M 69 [(0, .ref (ad E 29)), (1, .int v1), (2, .int v2), (3, .int v3), (4, .int v4)] []) M v3 v4) : G E x M 5 [(0, .ref (ad E 29)), (1, .int v1), (2, .int v2), (3, .int v3), (4, .int v4)] [] := by
  refine g_iload X dX12_goAll_5 4 rfl ?_
  refine g_aload_n X dX12_goAll_7 rfl 0 rfl ?_
  refine fg_X12_156 X dX12_goAll_8 ?_
  refine g_icmpge (tgt := 40) X dX12_goAll_11 (by decide) h (fun h => ?_) (fun h => ?_)
  · refine g_aload_n X dX12_goAll_40 rfl 0 rfl ?_
    refine fg_X12_73 X dX12_goAll_41 ?_
    refine g_iload_n X dX12_goAll_44 rfl 2 rfl ?_
    refine g_dup2 X dX12_goAll_45 rfl rfl ?_
    refine g_iald X ia_51 dX12_goAll_46 h (fun h => ?_)
    refine g_iload_n X dX12_goAll_47 rfl 3 rfl ?_
    refine g_ifne (tgt := 63) X dX12_goAll_48 (by decide) h (fun h => ?_) (fun h => ?_)
    · refine g_iconst (v := 0) X dX12_goAll_63 (by decide) ?_
      refine g_iadd X dX12_goAll_64 ?_
      refine g_iast X ia_51 dX12_goAll_65 h (fun M1 h => ?_)
      refine g_iconst (v := 0) X dX12_goAll_66 (by decide) ?_
      refine g_istore (lv' := [(0, .ref (ad E 29)), (1, .int v1), (2, .int v2), (3, .int v3), (4, .int 0)]) X dX12_goAll_67 (Nat.le_of_ble_eq_true rfl) rfl rfl ?_
      exact h
    · refine g_bipush (v := 60) X dX12_goAll_51 (by decide) ?_
      refine g_aload_n X dX12_goAll_53 rfl 0 rfl ?_
      refine fg_X12_70 X dX12_goAll_54 ?_
      refine g_iload_n X dX12_goAll_57 rfl 2 rfl ?_
      refine g_iald X ia_50 dX12_goAll_58 h (fun h => ?_)
      refine g_imul X dX12_goAll_59 ?_
      refine g_goto (tgt := 64) X dX12_goAll_60 (by decide) ?_
      refine g_iadd X dX12_goAll_64 ?_
      refine g_iast X ia_51 dX12_goAll_65 h (fun M2 h => ?_)
      refine g_iconst (v := 0) X dX12_goAll_66 (by decide) ?_
      refine g_istore (lv' := [(0, .ref (ad E 29)), (1, .int v1), (2, .int v2), (3, .int v3), (4, .int 0)]) X dX12_goAll_67 (Nat.le_of_ble_eq_true rfl) rfl rfl ?_
      exact h
  · refine g_iload_n X dX12_goAll_14 rfl 3 rfl ?_
    refine g_aload_n X dX12_goAll_15 rfl 0 rfl ?_
    refine g_iload_n X dX12_goAll_16 rfl 1 rfl ?_
    refine g_iload X dX12_goAll_17 4 rfl ?_
    refine g_iload_n X dX12_goAll_19 rfl 2 rfl ?_
    refine cl_X12_187 X (by decide) (Nat.le_of_ble_eq_true rfl) dX12_goAll_20 h (fun r3 M4 h => ?_)
    refine g_iconst (v := (-1)) X dX12_goAll_23 (by decide) ?_
    refine g_icmpeq (tgt := 31) X dX12_goAll_24 (by decide) h (fun h => ?_) (fun h => ?_)
    · refine g_iconst (v := 0) X dX12_goAll_31 (by decide) ?_
      refine g_iadd X dX12_goAll_32 ?_
      refine g_nm h (fun x3_5 h => ?_)
      refine g_istore_n (lv' := [(0, .ref (ad E 29)), (1, .int v1), (2, .int v2), (3, .int x3_5), (4, .int v4)]) X dX12_goAll_33 rfl (Nat.le_of_ble_eq_true rfl) rfl rfl ?_
      refine g_iinc (w := 1) X dX12_goAll_34 4 rfl (by decide) (Nat.le_of_ble_eq_true rfl) rfl (fun x4_6 => [(0, .ref (ad E 29)), (1, .int v1), (2, .int v2), (3, .int x3_5), (4, .int x4_6)]) (fun _ => rfl) h (fun x4_6 h => ?_)
      refine g_goto (tgt := 5) X dX12_goAll_37 (by decide) ?_
      exact h
    · refine g_iconst (v := 1) X dX12_goAll_27 (by decide) ?_
      refine g_goto (tgt := 32) X dX12_goAll_28 (by decide) ?_
      refine g_iadd X dX12_goAll_32 ?_
      refine g_nm h (fun x3_7 h => ?_)
      refine g_istore_n (lv' := [(0, .ref (ad E 29)), (1, .int v1), (2, .int v2), (3, .int x3_7), (4, .int v4)]) X dX12_goAll_33 rfl (Nat.le_of_ble_eq_true rfl) rfl rfl ?_
      refine g_iinc (w := 1) X dX12_goAll_34 4 rfl (by decide) (Nat.le_of_ble_eq_true rfl) rfl (fun x4_8 => [(0, .ref (ad E 29)), (1, .int v1), (2, .int v2), (3, .int x3_7), (4, .int x4_8)]) (fun _ => rfl) h (fun x4_8 h => ?_)
      refine g_goto (tgt := 5) X dX12_goAll_37 (by decide) ?_
      exact h
theorem w_X12_goAll (E : Ek) (l : Launch) {v1 : Int32} {v2 : Int32} {M : Mem} {Post : Mem → Prop} (h : wp_X12_goAll Post M v1 v2) : ctV E l yX12_goAll cX12_goAll 6 none 3 [.ref (ad E 29), .int v1, .int v2] M Post := by
  refine ct_of (by decide) (Nat.le_of_ble_eq_true rfl) (fun x X hQ => ?_)
  have h := h (fun M v3 v4 => G E x M 5 [(0, .ref (ad E 29)), (1, .int v1), (2, .int v2), (3, .int v3), (4, .int v4)] []) (fun M v3 v4 => G E x M 69 [(0, .ref (ad E 29)), (1, .int v1), (2, .int v2), (3, .int v3), (4, .int v4)] []) (fun M v3 v4 h => k_X12_goAll_b5 X hQ  h) (fun M v3 v4 h => k_X12_goAll_b69 X hQ  h)
  change G E x M 0 [(0, .ref (ad E 29)), (1, .int v1), (2, .int v2)] []
  refine g_iconst (v := 0) X dX12_goAll_0 (by decide) ?_
  refine g_istore_n (lv' := [(0, .ref (ad E 29)), (1, .int v1), (2, .int v2), (3, .int 0)]) X dX12_goAll_1 rfl (Nat.le_of_ble_eq_true rfl) rfl rfl ?_
  refine g_iconst (v := 0) X dX12_goAll_2 (by decide) ?_
  refine g_istore (lv' := [(0, .ref (ad E 29)), (1, .int v1), (2, .int v2), (3, .int 0), (4, .int 0)]) X dX12_goAll_3 (Nat.le_of_ble_eq_true rfl) rfl rfl ?_
  exact h
theorem cl_X12_293 {E : Ek} {x : MC} {cc : ByteArray} {nL hm pc : Nat} {M : Mem} {lv : List (Nat × Value)} {st : List Value} (X : Cx E x cc nL RX12 hm) {v1 : Int32} {v2 : Int32} {Post : Mem → Prop} (hr : 3 < hm) (hW : (st.map fun v => v.category).sum ≤ 8) (hd : decode cc pc = .ok (.invokevirtual 293, 3)) (h : wp_X12_goAll Post M v1 v2) (kk : ∀ M1, Post M1 → G E x M1 (pc + 3) lv st) : G E x M pc lv (.int v2 :: .int v1 :: .ref (ad E 29) :: st) := k_V (fun hP hS hL => run_V X (w_X12_goAll E (xl x)  h) cw_X12_goAll m729 m730 m731 (⟨by decide, fun E f h => ⟨_, _, _, rfl, rfl, rfl⟩⟩ : OC 29 RX12) hr rfl hd hW hP hS hL) kk
