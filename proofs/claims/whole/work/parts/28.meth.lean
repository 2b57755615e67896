theorem cw_X12_isDoorLetter : CW yX12_isDoorLetter cX12_isDoorLetter 3 (some .boolean) 1 := ⟨m516, m499, Nat.le_of_ble_eq_true rfl, by decide +kernel⟩
def wp_X12_isDoorLetter (Post : Int32 → Mem → Prop) (M : Mem) (v1 : Int32) : Prop :=
 vp_in v1 64 ∧
 ∀ x2_1 : Int32, x2_1 = rd M 30 v1.toNatClampNeg →
 (((v1 - 2) - (v1 - 2) / 4 * 4) = 0 →
  wp_X12_isRoomLetter (fun r2 M3 =>
   zb r2 ∧ Post r2 M3) M x2_1) ∧
 (((v1 - 2) - (v1 - 2) / 4 * 4) = 1 →
  wp_X12_isRoomLetter (fun r4 M5 =>
   (r4 = 0 →
    Post 0 M5) ∧
   (¬ r4 = 0 →
    vp_in (v1 - 1) 64 ∧
    (x2_1 = (rd M5 30 (v1 - 1).toNatClampNeg) →
     Post 0 M5) ∧
    (¬ x2_1 = (rd M5 30 (v1 - 1).toNatClampNeg) →
     Post 1 M5))) M x2_1) ∧
 (((v1 - 2) - (v1 - 2) / 4 * 4) = 2 →
  (x2_1 = 111 →
   Post 1 M) ∧
  (¬ x2_1 = 111 →
   (x2_1 = 97 →
    Post 1 M) ∧
   (¬ x2_1 = 97 →
    (¬ x2_1 = 98 →
     Post 0 M) ∧
    (x2_1 = 98 →
     Post 1 M)))) ∧
 (¬ ((v1 - 2) - (v1 - 2) / 4 * 4) = 0 → ¬ ((v1 - 2) - (v1 - 2) / 4 * 4) = 1 → ¬ ((v1 - 2) - (v1 - 2) / 4 * 4) = 2 → 
  (¬ x2_1 = 59 →
   (¬ x2_1 = 44 →
    Post 0 M) ∧
   (x2_1 = 44 →
    (25 ≤ v1 →
     Post 0 M) ∧
    (¬ 25 ≤ v1 →
     Post 1 M))) ∧
  (x2_1 = 59 →
   ∀ M6 : Mem, M6 = wr M 29 2 v1 →
   Post 1 M6))
theorem w_X12_isDoorLetter (E : Ek) (l : Launch) {v1 : Int32} {M : Mem} {Post : Int32 → Mem → Prop} (h : wp_X12_isDoorLetter Post M v1) : ctI E l yX12_isDoorLetter cX12_isDoorLetter 3 (some .boolean) 3 [.ref (ad E 29), .int v1] M Post := by
  refine ct_of (by decide) (Nat.le_of_ble_eq_true rfl) (fun x X hQ => ?_)
  change G E x M 0 [(0, .ref (ad E 29)), (1, .int v1)] []
  refine g_aload_n X dX12_isDoorLetter_0 rfl 0 rfl ?_
  refine fg_X12_7 X dX12_isDoorLetter_1 ?_
  refine g_iload_n X dX12_isDoorLetter_4 rfl 1 rfl ?_
  refine g_iald X ia_30 dX12_isDoorLetter_5 h (fun h => ?_)
  refine g_nm h (fun x2_1 h => ?_)
  refine g_istore_n (lv' := [(0, .ref (ad E 29)), (1, .int v1), (2, .int x2_1)]) X dX12_isDoorLetter_6 rfl (Nat.le_of_ble_eq_true rfl) rfl rfl ?_
  refine g_iload_n X dX12_isDoorLetter_7 rfl 1 rfl ?_
  refine g_iconst (v := 2) X dX12_isDoorLetter_8 (by decide) ?_
  refine g_isub X dX12_isDoorLetter_9 ?_
  refine g_iconst (v := 4) X dX12_isDoorLetter_10 (by decide) ?_
  refine g_irem X dX12_isDoorLetter_11 ⟨by decide, h⟩ (fun h => ?_)
  by_cases c0 : ((v1 - 2) - (v1 - 2) / 4 * 4) = 0
  · have h := h.1 c0
    refine g_tabI (tgt := 40) X dX12_isDoorLetter_12 c0 ⟨⟨by decide, by decide⟩, rfl⟩ (by decide) ?_
    refine g_aload_n X dX12_isDoorLetter_40 rfl 0 rfl ?_
    refine g_iload_n X dX12_isDoorLetter_41 rfl 2 rfl ?_
    refine cl_X12_112 X (by decide) (Nat.le_of_ble_eq_true rfl) dX12_isDoorLetter_42 h (fun r2 M3 h => ?_)
    exact g_zret X hQ dX12_isDoorLetter_45 h
  by_cases c1 : ((v1 - 2) - (v1 - 2) / 4 * 4) = 1
  · have h := h.2.1 c1
    refine g_tabI (tgt := 46) X dX12_isDoorLetter_12 c1 ⟨⟨by decide, by decide⟩, rfl⟩ (by decide) ?_
    refine g_aload_n X dX12_isDoorLetter_46 rfl 0 rfl ?_
    refine g_iload_n X dX12_isDoorLetter_47 rfl 2 rfl ?_
    refine cl_X12_112 X (by decide) (Nat.le_of_ble_eq_true rfl) dX12_isDoorLetter_48 h (fun r4 M5 h => ?_)
    refine g_ifeq (tgt := 70) X dX12_isDoorLetter_51 (by decide) h (fun h => ?_) (fun h => ?_)
    · refine g_iconst (v := 0) X dX12_isDoorLetter_70 (by decide) ?_
      exact g_zret X hQ dX12_isDoorLetter_71 ⟨Or.inl rfl, h⟩
    · refine g_iload_n X dX12_isDoorLetter_54 rfl 2 rfl ?_
      refine g_aload_n X dX12_isDoorLetter_55 rfl 0 rfl ?_
      refine fg_X12_7 X dX12_isDoorLetter_56 ?_
      refine g_iload_n X dX12_isDoorLetter_59 rfl 1 rfl ?_
      refine g_iconst (v := 1) X dX12_isDoorLetter_60 (by decide) ?_
      refine g_isub X dX12_isDoorLetter_61 ?_
      refine g_iald X ia_30 dX12_isDoorLetter_62 h (fun h => ?_)
      refine g_icmpeq (tgt := 70) X dX12_isDoorLetter_63 (by decide) h (fun h => ?_) (fun h => ?_)
      · refine g_iconst (v := 0) X dX12_isDoorLetter_70 (by decide) ?_
        exact g_zret X hQ dX12_isDoorLetter_71 ⟨Or.inl rfl, h⟩
      · refine g_iconst (v := 1) X dX12_isDoorLetter_66 (by decide) ?_
        refine g_goto (tgt := 71) X dX12_isDoorLetter_67 (by decide) ?_
        exact g_zret X hQ dX12_isDoorLetter_71 ⟨Or.inr rfl, h⟩
  by_cases c2 : ((v1 - 2) - (v1 - 2) / 4 * 4) = 2
  · have h := h.2.2.1 c2
    refine g_tabI (tgt := 72) X dX12_isDoorLetter_12 c2 ⟨⟨by decide, by decide⟩, rfl⟩ (by decide) ?_
    refine g_iload_n X dX12_isDoorLetter_72 rfl 2 rfl ?_
    refine g_bipush (v := 111) X dX12_isDoorLetter_73 (by decide) ?_
    refine g_icmpeq (tgt := 90) X dX12_isDoorLetter_75 (by decide) h (fun h => ?_) (fun h => ?_)
    · refine g_iconst (v := 1) X dX12_isDoorLetter_90 (by decide) ?_
      refine g_goto (tgt := 95) X dX12_isDoorLetter_91 (by decide) ?_
      exact g_zret X hQ dX12_isDoorLetter_95 ⟨Or.inr rfl, h⟩
    · refine g_iload_n X dX12_isDoorLetter_78 rfl 2 rfl ?_
      refine g_bipush (v := 97) X dX12_isDoorLetter_79 (by decide) ?_
      refine g_icmpeq (tgt := 90) X dX12_isDoorLetter_81 (by decide) h (fun h => ?_) (fun h => ?_)
      · refine g_iconst (v := 1) X dX12_isDoorLetter_90 (by decide) ?_
        refine g_goto (tgt := 95) X dX12_isDoorLetter_91 (by decide) ?_
        exact g_zret X hQ dX12_isDoorLetter_95 ⟨Or.inr rfl, h⟩
      · refine g_iload_n X dX12_isDoorLetter_84 rfl 2 rfl ?_
        refine g_bipush (v := 98) X dX12_isDoorLetter_85 (by decide) ?_
        refine g_icmpne (tgt := 94) X dX12_isDoorLetter_87 (by decide) h (fun h => ?_) (fun h => ?_)
        · refine g_iconst (v := 0) X dX12_isDoorLetter_94 (by decide) ?_
          exact g_zret X hQ dX12_isDoorLetter_95 ⟨Or.inl rfl, h⟩
        · refine g_iconst (v := 1) X dX12_isDoorLetter_90 (by decide) ?_
          refine g_goto (tgt := 95) X dX12_isDoorLetter_91 (by decide) ?_
          exact g_zret X hQ dX12_isDoorLetter_95 ⟨Or.inr rfl, h⟩
  have h := h.2.2.2 c0 c1 c2
  refine g_tabO (tgt := 96) X dX12_isDoorLetter_12 (by have e0 := lv_neT (a := 0) c0 (by decide); have e1 := lv_neT (a := 1) c1 (by decide); have e2 := lv_neT (a := 2) c2 (by decide); omega) (by decide) ?_
  refine g_iload_n X dX12_isDoorLetter_96 rfl 2 rfl ?_
  refine g_bipush (v := 59) X dX12_isDoorLetter_97 (by decide) ?_
  refine g_icmpne (tgt := 109) X dX12_isDoorLetter_99 (by decide) h (fun h => ?_) (fun h => ?_)
  · refine g_iload_n X dX12_isDoorLetter_109 rfl 2 rfl ?_
    refine g_bipush (v := 44) X dX12_isDoorLetter_110 (by decide) ?_
    refine g_icmpne (tgt := 125) X dX12_isDoorLetter_112 (by decide) h (fun h => ?_) (fun h => ?_)
    · refine g_iconst (v := 0) X dX12_isDoorLetter_125 (by decide) ?_
      exact g_zret X hQ dX12_isDoorLetter_126 ⟨Or.inl rfl, h⟩
    · refine g_iload_n X dX12_isDoorLetter_115 rfl 1 rfl ?_
      refine g_bipush (v := 25) X dX12_isDoorLetter_116 (by decide) ?_
      refine g_icmpge (tgt := 125) X dX12_isDoorLetter_118 (by decide) h (fun h => ?_) (fun h => ?_)
      · refine g_iconst (v := 0) X dX12_isDoorLetter_125 (by decide) ?_
        exact g_zret X hQ dX12_isDoorLetter_126 ⟨Or.inl rfl, h⟩
      · refine g_iconst (v := 1) X dX12_isDoorLetter_121 (by decide) ?_
        refine g_goto (tgt := 126) X dX12_isDoorLetter_122 (by decide) ?_
        exact g_zret X hQ dX12_isDoorLetter_126 ⟨Or.inr rfl, h⟩
  · refine g_aload_n X dX12_isDoorLetter_102 rfl 0 rfl ?_
    refine g_iload_n X dX12_isDoorLetter_103 rfl 1 rfl ?_
    refine fp_X12_116 X dX12_isDoorLetter_104 h (fun M6 h => ?_)
    refine g_iconst (v := 1) X dX12_isDoorLetter_107 (by decide) ?_
    exact g_zret X hQ dX12_isDoorLetter_108 ⟨Or.inr rfl, h⟩
theorem cl_X12_137 {E : Ek} {x : MC} {cc : ByteArray} {nL hm pc : Nat} {M : Mem} {lv : List (Nat × Value)} {st : List Value} (X : Cx E x cc nL RX12 hm) {v1 : Int32} {Post : Int32 → Mem → Prop} (hr : 3 < hm) (hW : (st.map fun v => v.category).sum ≤ 8) (hd : decode cc pc = .ok (.invokevirtual 137, 3)) (h : wp_X12_isDoorLetter Post M v1) (kk : ∀ r M1, Post r M1 → G E x M1 (pc + 3) lv (.int r :: st)) : G E x M pc lv (.int v1 :: .ref (ad E 29) :: st) := k_I (fun hP hS hL => run_V X (w_X12_isDoorLetter E (xl x)  h) cw_X12_isDoorLetter m534 m535 m536 (⟨by decide, fun E f h => ⟨_, _, _, rfl, rfl, rfl⟩⟩ : OC 29 RX12) hr rfl hd hW hP hS hL) kk
theorem cw_X12_isPersonLetter : CW yX12_isPersonLetter cX12_isPersonLetter 4 (some .boolean) 1 := ⟨m521, m499, Nat.le_of_ble_eq_true rfl, by decide +kernel⟩
def wp_X12_isPersonLetter_b94 (Post : Int32 → Mem → Prop) (v1 : Int32) (M : Mem) (v2 : Int32) (v3 : Int32) : Prop :=
 (¬ v2 = 44 →
  Post 0 M) ∧
 (v2 = 44 →
  (15 ≤ v3 →
   Post 0 M) ∧
  (¬ 15 ≤ v3 →
   Post 1 M))
def wp_X12_isPersonLetter (Post : Int32 → Mem → Prop) (M : Mem) (v1 : Int32) : Prop :=
 vp_in v1 64 ∧
 ∀ x2_1 : Int32, x2_1 = rd M 30 v1.toNatClampNeg →
 ∀ x3_2 : Int32, x3_2 = (v1 - (rd M 29 2)) - 1 →
 ((x3_2 - x3_2 / 4 * 4) = 0 →
  wp_X12_kindBy (fun r3 M4 =>
   (r3 = (-1) →
    Post 0 M4) ∧
   (¬ r3 = (-1) →
    Post 1 M4)) M x2_1) ∧
 ((x3_2 - x3_2 / 4 * 4) = 1 →
  wp_X12_in (fun r5 M6 =>
   zb r5 ∧ Post r5 M6) M (x2_1.toInt64) (48 : Int64) (57 : Int64)) ∧
 ((x3_2 - x3_2 / 4 * 4) = 2 →
  wp_X12_isRoomLetter (fun r7 M8 =>
   zb r7 ∧ Post r7 M8) M x2_1) ∧
 (¬ (x3_2 - x3_2 / 4 * 4) = 0 → ¬ (x3_2 - x3_2 / 4 * 4) = 1 → ¬ (x3_2 - x3_2 / 4 * 4) = 2 → 
  (¬ x2_1 = 59 →
   wp_X12_isPersonLetter_b94 Post v1 M x2_1 x3_2) ∧
  (x2_1 = 59 →
   (x3_2 ≤ 3 →
    wp_X12_isPersonLetter_b94 Post v1 M x2_1 x3_2) ∧
   (¬ x3_2 ≤ 3 →
    ∀ M9 : Mem, M9 = wr M 29 3 v1 →
    Post 1 M9)))
theorem k_X12_isPersonLetter_b94 {E : Ek} {x : MC} (X : Cx E x cX12_isPersonLetter 4 RX12 3) {Post : Int32 → Mem → Prop} (hQ : QI E x Post (some .boolean)) {v1 : Int32} {M : Mem} {v2 : Int32} {v3 : Int32} (h : wp_X12_isPersonLetter_b94 Post v1 M v2 v3) : G E x M 94 [(2, .int v2), (3, .int v3)] [] := by
  refine g_iload_n X dX12_isPersonLetter_94 rfl 0 rfl ?_
  refine g_bipush (v := 44) X dX12_isPersonLetter_95 (by decide) ?_
  refine g_icmpne (tgt := 110) X dX12_isPersonLetter_97 (by decide) h (fun h => ?_) (fun h => ?_)
  · refine g_iconst (v := 0) X dX12_isPersonLetter_110 (by decide) ?_
    exact g_zret X hQ dX12_isPersonLetter_111 ⟨Or.inl rfl, h⟩
  · refine g_iload_n X dX12_isPersonLetter_100 rfl 1 rfl ?_
    refine g_bipush (v := 15) X dX12_isPersonLetter_101 (by decide) ?_
    refine g_icmpge (tgt := 110) X dX12_isPersonLetter_103 (by decide) h (fun h => ?_) (fun h => ?_)
    · refine g_iconst (v := 0) X dX12_isPersonLetter_110 (by decide) ?_
      exact g_zret X hQ dX12_isPersonLetter_111 ⟨Or.inl rfl, h⟩
    · refine g_iconst (v := 1) X dX12_isPersonLetter_106 (by decide) ?_
      refine g_goto (tgt := 111) X dX12_isPersonLetter_107 (by decide) ?_
      exact g_zret X hQ dX12_isPersonLetter_111 ⟨Or.inr rfl, h⟩
theorem w_X12_isPersonLetter (E : Ek) (l : Launch) {v1 : Int32} {M : Mem} {Post : Int32 → Mem → Prop} (h : wp_X12_isPersonLetter Post M v1) : ctI E l yX12_isPersonLetter cX12_isPersonLetter 4 (some .boolean) 3 [.ref (ad E 29), .int v1] M Post := by
  refine ct_of (by decide) (Nat.le_of_ble_eq_true rfl) (fun x X hQ => ?_)
  change G E x M 0 [(0, .ref (ad E 29)), (1, .int v1)] []
  refine g_aload_n X dX12_isPersonLetter_0 rfl 0 rfl ?_
  refine fg_X12_7 X dX12_isPersonLetter_1 ?_
  refine g_iload_n X dX12_isPersonLetter_4 rfl 1 rfl ?_
  refine g_iald X ia_30 dX12_isPersonLetter_5 h (fun h => ?_)
  refine g_nm h (fun x2_1 h => ?_)
  refine g_istore_n (lv' := [(0, .ref (ad E 29)), (1, .int v1), (2, .int x2_1)]) X dX12_isPersonLetter_6 rfl (Nat.le_of_ble_eq_true rfl) rfl rfl ?_
  refine g_iload_n X dX12_isPersonLetter_7 rfl 1 rfl ?_
  refine g_aload_n X dX12_isPersonLetter_8 rfl 0 rfl ?_
  refine fg_X12_116 X dX12_isPersonLetter_9 ?_
  refine g_isub X dX12_isPersonLetter_12 ?_
  refine g_iconst (v := 1) X dX12_isPersonLetter_13 (by decide) ?_
  refine g_isub X dX12_isPersonLetter_14 ?_
  refine g_nm h (fun x3_2 h => ?_)
  refine g_istore_n (lv' := [(0, .ref (ad E 29)), (1, .int v1), (2, .int x2_1), (3, .int x3_2)]) X dX12_isPersonLetter_15 rfl (Nat.le_of_ble_eq_true rfl) rfl rfl ?_
  refine g_iload_n X dX12_isPersonLetter_16 rfl 3 rfl ?_
  refine g_iconst (v := 4) X dX12_isPersonLetter_17 (by decide) ?_
  refine g_irem X dX12_isPersonLetter_18 ⟨by decide, h⟩ (fun h => ?_)
  by_cases c0 : (x3_2 - x3_2 / 4 * 4) = 0
  · have h := h.1 c0
    refine g_tabI (tgt := 44) X dX12_isPersonLetter_19 c0 ⟨⟨by decide, by decide⟩, rfl⟩ (by decide) ?_
    refine g_iload_n X dX12_isPersonLetter_44 rfl 2 rfl ?_
    refine cl_X12_119 X (by decide) (Nat.le_of_ble_eq_true rfl) dX12_isPersonLetter_45 h (fun r3 M4 h => ?_)
    refine g_iconst (v := (-1)) X dX12_isPersonLetter_48 (by decide) ?_
    refine g_icmpeq (tgt := 56) X dX12_isPersonLetter_49 (by decide) h (fun h => ?_) (fun h => ?_)
    · refine g_iconst (v := 0) X dX12_isPersonLetter_56 (by decide) ?_
      exact g_zret X hQ dX12_isPersonLetter_57 ⟨Or.inl rfl, h⟩
    · refine g_iconst (v := 1) X dX12_isPersonLetter_52 (by decide) ?_
      refine g_goto (tgt := 57) X dX12_isPersonLetter_53 (by decide) ?_
      exact g_zret X hQ dX12_isPersonLetter_57 ⟨Or.inr rfl, h⟩
  by_cases c1 : (x3_2 - x3_2 / 4 * 4) = 1
  · have h := h.2.1 c1
    refine g_tabI (tgt := 58) X dX12_isPersonLetter_19 c1 ⟨⟨by decide, by decide⟩, rfl⟩ (by decide) ?_
    refine g_iload_n X dX12_isPersonLetter_58 rfl 2 rfl ?_
    refine g_i2l X dX12_isPersonLetter_59 ?_
    refine g_ldc2 X dX12_isPersonLetter_60 m510 ?_
    refine g_ldc2 X dX12_isPersonLetter_63 m519 ?_
    refine cl_X12_103 X (by decide) (Nat.le_of_ble_eq_true rfl) dX12_isPersonLetter_66 h (fun r5 M6 h => ?_)
    exact g_zret X hQ dX12_isPersonLetter_69 h
  by_cases c2 : (x3_2 - x3_2 / 4 * 4) = 2
  · have h := h.2.2.1 c2
    refine g_tabI (tgt := 70) X dX12_isPersonLetter_19 c2 ⟨⟨by decide, by decide⟩, rfl⟩ (by decide) ?_
    refine g_aload_n X dX12_isPersonLetter_70 rfl 0 rfl ?_
    refine g_iload_n X dX12_isPersonLetter_71 rfl 2 rfl ?_
    refine cl_X12_112 X (by decide) (Nat.le_of_ble_eq_true rfl) dX12_isPersonLetter_72 h (fun r7 M8 h => ?_)
    exact g_zret X hQ dX12_isPersonLetter_75 h
  have h := h.2.2.2 c0 c1 c2
  refine g_tabO (tgt := 76) X dX12_isPersonLetter_19 (by have e0 := lv_neT (a := 0) c0 (by decide); have e1 := lv_neT (a := 1) c1 (by decide); have e2 := lv_neT (a := 2) c2 (by decide); omega) (by decide) ?_
  refine g_iload_n X dX12_isPersonLetter_76 rfl 2 rfl ?_
  refine g_bipush (v := 59) X dX12_isPersonLetter_77 (by decide) ?_
  refine g_icmpne (tgt := 94) X dX12_isPersonLetter_79 (by decide) h (fun h => ?_) (fun h => ?_)
  · exact g_sub [2, 3] rfl (k_X12_isPersonLetter_b94 X hQ  h)
  · refine g_iload_n X dX12_isPersonLetter_82 rfl 3 rfl ?_
    refine g_iconst (v := 3) X dX12_isPersonLetter_83 (by decide) ?_
    refine g_icmple (tgt := 94) X dX12_isPersonLetter_84 (by decide) h (fun h => ?_) (fun h => ?_)
    · exact g_sub [2, 3] rfl (k_X12_isPersonLetter_b94 X hQ  h)
    · refine g_aload_n X dX12_isPersonLetter_87 rfl 0 rfl ?_
      refine g_iload_n X dX12_isPersonLetter_88 rfl 1 rfl ?_
      refine fp_X12_125 X dX12_isPersonLetter_89 h (fun M9 h => ?_)
      refine g_iconst (v := 1) X dX12_isPersonLetter_92 (by decide) ?_
      exact g_zret X hQ dX12_isPersonLetter_93 ⟨Or.inr rfl, h⟩
theorem cl_X12_140 {E : Ek} {x : MC} {cc : ByteArray} {nL hm pc : Nat} {M : Mem} {lv : List (Nat × Value)} {st : List Value} (X : Cx E x cc nL RX12 hm) {v1 : Int32} {Post : Int32 → Mem → Prop} (hr : 3 < hm) (hW : (st.map fun v => v.category).sum ≤ 8) (hd : decode cc pc = .ok (.invokevirtual 140, 3)) (h : wp_X12_isPersonLetter Post M v1) (kk : ∀ r M1, Post r M1 → G E x M1 (pc + 3) lv (.int r :: st)) : G E x M pc lv (.int v1 :: .ref (ad E 29) :: st) := k_I (fun hP hS hL => run_V X (w_X12_isPersonLetter E (xl x)  h) cw_X12_isPersonLetter m531 m532 m533 (⟨by decide, fun E f h => ⟨_, _, _, rfl, rfl, rfl⟩⟩ : OC 29 RX12) hr rfl hd hW hP hS hL) kk
theorem cw_X12_isPersonDigit : CW yX12_isPersonDigit cX12_isPersonDigit 2 (some .boolean) 1 := ⟨m522, m499, Nat.le_of_ble_eq_true rfl, by decide +kernel⟩
def wp_X12_isPersonDigit (Post : Int32 → Mem → Prop) (M : Mem) (v1 : Int32) : Prop :=
 wp_X12_in (fun r1 M2 =>
  zb r1 ∧ Post r1 M2) M (v1.toInt64) (48 : Int64) ((((48 : Int32) + (((rd M 29 3) - (rd M 29 2)) / 4)) - 1).toInt64)
theorem w_X12_isPersonDigit (E : Ek) (l : Launch) {v1 : Int32} {M : Mem} {Post : Int32 → Mem → Prop} (h : wp_X12_isPersonDigit Post M v1) : ctI E l yX12_isPersonDigit cX12_isPersonDigit 2 (some .boolean) 2 [.ref (ad E 29), .int v1] M Post := by
  refine ct_of (by decide) (Nat.le_of_ble_eq_true rfl) (fun x X hQ => ?_)
  change G E x M 0 [(0, .ref (ad E 29)), (1, .int v1)] []
  refine g_iload_n X dX12_isPersonDigit_0 rfl 1 rfl ?_
  refine g_i2l X dX12_isPersonDigit_1 ?_
  refine g_ldc2 X dX12_isPersonDigit_2 m510 ?_
  refine g_bipush (v := 48) X dX12_isPersonDigit_5 (by decide) ?_
  refine g_aload_n X dX12_isPersonDigit_7 rfl 0 rfl ?_
  refine fg_X12_125 X dX12_isPersonDigit_8 ?_
  refine g_aload_n X dX12_isPersonDigit_11 rfl 0 rfl ?_
  refine fg_X12_116 X dX12_isPersonDigit_12 ?_
  refine g_isub X dX12_isPersonDigit_15 ?_
  refine g_iconst (v := 4) X dX12_isPersonDigit_16 (by decide) ?_
  refine g_idiv X dX12_isPersonDigit_17 ⟨by decide, h⟩ (fun h => ?_)
  refine g_iadd X dX12_isPersonDigit_18 ?_
  refine g_iconst (v := 1) X dX12_isPersonDigit_19 (by decide) ?_
  refine g_isub X dX12_isPersonDigit_20 ?_
  refine g_i2l X dX12_isPersonDigit_21 ?_
  refine cl_X12_103 X (by decide) (Nat.le_of_ble_eq_true rfl) dX12_isPersonDigit_22 h (fun r1 M2 h => ?_)
  exact g_zret X hQ dX12_isPersonDigit_25 h
theorem cl_X12_128 {E : Ek} {x : MC} {cc : ByteArray} {nL hm pc : Nat} {M : Mem} {lv : List (Nat × Value)} {st : List Value} (X : Cx E x cc nL RX12 hm) {v1 : Int32} {Post : Int32 → Mem → Prop} (hr : 2 < hm) (hW : (st.map fun v => v.category).sum ≤ 8) (hd : decode cc pc = .ok (.invokevirtual 128, 3)) (h : wp_X12_isPersonDigit Post M v1) (kk : ∀ r M1, Post r M1 → G E x M1 (pc + 3) lv (.int r :: st)) : G E x M pc lv (.int v1 :: .ref (ad E 29) :: st) := k_I (fun hP hS hL => run_V X (w_X12_isPersonDigit E (xl x)  h) cw_X12_isPersonDigit m523 m524 m525 (⟨by decide, fun E f h => ⟨_, _, _, rfl, rfl, rfl⟩⟩ : OC 29 RX12) hr rfl hd hW hP hS hL) kk
theorem cw_X12_isDebtLetter : CW yX12_isDebtLetter cX12_isDebtLetter 4 (some .boolean) 1 := ⟨m527, m499, Nat.le_of_ble_eq_true rfl, by decide +kernel⟩
def wp_X12_isDebtLetter (Post : Int32 → Mem → Prop) (M : Mem) (v1 : Int32) : Prop :=
 vp_in v1 64 ∧
 ∀ x2_1 : Int32, x2_1 = rd M 30 v1.toNatClampNeg →
 ∀ x3_2 : Int32, x3_2 = (v1 - (rd M 29 3)) - 1 →
 ((x3_2 - x3_2 / 5 * 5) = 0 →
  wp_X12_isPersonDigit (fun r3 M4 =>
   zb r3 ∧ Post r3 M4) M x2_1) ∧
 ((x3_2 - x3_2 / 5 * 5) = 1 →
  wp_X12_isPersonDigit (fun r5 M6 =>
   (r5 = 0 →
    Post 0 M6) ∧
   (¬ r5 = 0 →
    vp_in (v1 - 1) 64 ∧
    (x2_1 = (rd M6 30 (v1 - 1).toNatClampNeg) →
     Post 0 M6) ∧
    (¬ x2_1 = (rd M6 30 (v1 - 1).toNatClampNeg) →
     Post 1 M6))) M x2_1) ∧
 ((x3_2 - x3_2 / 5 * 5) = 2 →
  wp_X12_isRoomLetter (fun r7 M8 =>
   zb r7 ∧ Post r7 M8) M x2_1) ∧
 ((x3_2 - x3_2 / 5 * 5) = 3 →
  wp_X12_in (fun r9 M10 =>
   zb r9 ∧ Post r9 M10) M (x2_1.toInt64) (49 : Int64) (57 : Int64)) ∧
 (¬ (x3_2 - x3_2 / 5 * 5) = 0 → ¬ (x3_2 - x3_2 / 5 * 5) = 1 → ¬ (x3_2 - x3_2 / 5 * 5) = 2 → ¬ (x3_2 - x3_2 / 5 * 5) = 3 → 
  (¬ x2_1 = 44 →
   Post 0 M) ∧
  (x2_1 = 44 →
   (19 ≤ x3_2 →
    Post 0 M) ∧
   (¬ 19 ≤ x3_2 →
    Post 1 M)))
theorem w_X12_isDebtLetter (E : Ek) (l : Launch) {v1 : Int32} {M : Mem} {Post : Int32 → Mem → Prop} (h : wp_X12_isDebtLetter Post M v1) : ctI E l yX12_isDebtLetter cX12_isDebtLetter 4 (some .boolean) 3 [.ref (ad E 29), .int v1] M Post := by
  refine ct_of (by decide) (Nat.le_of_ble_eq_true rfl) (fun x X hQ => ?_)
  change G E x M 0 [(0, .ref (ad E 29)), (1, .int v1)] []
  refine g_aload_n X dX12_isDebtLetter_0 rfl 0 rfl ?_
  refine fg_X12_7 X dX12_isDebtLetter_1 ?_
  refine g_iload_n X dX12_isDebtLetter_4 rfl 1 rfl ?_
  refine g_iald X ia_30 dX12_isDebtLetter_5 h (fun h => ?_)
  refine g_nm h (fun x2_1 h => ?_)
  refine g_istore_n (lv' := [(0, .ref (ad E 29)), (1, .int v1), (2, .int x2_1)]) X dX12_isDebtLetter_6 rfl (Nat.le_of_ble_eq_true rfl) rfl rfl ?_
  refine g_iload_n X dX12_isDebtLetter_7 rfl 1 rfl ?_
  refine g_aload_n X dX12_isDebtLetter_8 rfl 0 rfl ?_
  refine fg_X12_125 X dX12_isDebtLetter_9 ?_
  refine g_isub X dX12_isDebtLetter_12 ?_
  refine g_iconst (v := 1) X dX12_isDebtLetter_13 (by decide) ?_
  refine g_isub X dX12_isDebtLetter_14 ?_
  refine g_nm h (fun x3_2 h => ?_)
  refine g_istore_n (lv' := [(0, .ref (ad E 29)), (1, .int v1), (2, .int x2_1), (3, .int x3_2)]) X dX12_isDebtLetter_15 rfl (Nat.le_of_ble_eq_true rfl) rfl rfl ?_
  refine g_iload_n X dX12_isDebtLetter_16 rfl 3 rfl ?_
  refine g_iconst (v := 5) X dX12_isDebtLetter_17 (by decide) ?_
  refine g_irem X dX12_isDebtLetter_18 ⟨by decide, h⟩ (fun h => ?_)
  by_cases c0 : (x3_2 - x3_2 / 5 * 5) = 0
  · have h := h.1 c0
    refine g_tabI (tgt := 48) X dX12_isDebtLetter_19 c0 ⟨⟨by decide, by decide⟩, rfl⟩ (by decide) ?_
    refine g_aload_n X dX12_isDebtLetter_48 rfl 0 rfl ?_
    refine g_iload_n X dX12_isDebtLetter_49 rfl 2 rfl ?_
    refine cl_X12_128 X (by decide) (Nat.le_of_ble_eq_true rfl) dX12_isDebtLetter_50 h (fun r3 M4 h => ?_)
    exact g_zret X hQ dX12_isDebtLetter_53 h
  by_cases c1 : (x3_2 - x3_2 / 5 * 5) = 1
  · have h := h.2.1 c1
    refine g_tabI (tgt := 54) X dX12_isDebtLetter_19 c1 ⟨⟨by decide, by decide⟩, rfl⟩ (by decide) ?_
    refine g_aload_n X dX12_isDebtLetter_54 rfl 0 rfl ?_
    refine g_iload_n X dX12_isDebtLetter_55 rfl 2 rfl ?_
    refine cl_X12_128 X (by decide) (Nat.le_of_ble_eq_true rfl) dX12_isDebtLetter_56 h (fun r5 M6 h => ?_)
    refine g_ifeq (tgt := 78) X dX12_isDebtLetter_59 (by decide) h (fun h => ?_) (fun h => ?_)
    · refine g_iconst (v := 0) X dX12_isDebtLetter_78 (by decide) ?_
      exact g_zret X hQ dX12_isDebtLetter_79 ⟨Or.inl rfl, h⟩
    · refine g_iload_n X dX12_isDebtLetter_62 rfl 2 rfl ?_
      refine g_aload_n X dX12_isDebtLetter_63 rfl 0 rfl ?_
      refine fg_X12_7 X dX12_isDebtLetter_64 ?_
      refine g_iload_n X dX12_isDebtLetter_67 rfl 1 rfl ?_
      refine g_iconst (v := 1) X dX12_isDebtLetter_68 (by decide) ?_
      refine g_isub X dX12_isDebtLetter_69 ?_
      refine g_iald X ia_30 dX12_isDebtLetter_70 h (fun h => ?_)
      refine g_icmpeq (tgt := 78) X dX12_isDebtLetter_71 (by decide) h (fun h => ?_) (fun h => ?_)
      · refine g_iconst (v := 0) X dX12_isDebtLetter_78 (by decide) ?_
        exact g_zret X hQ dX12_isDebtLetter_79 ⟨Or.inl rfl, h⟩
      · refine g_iconst (v := 1) X dX12_isDebtLetter_74 (by decide) ?_
        refine g_goto (tgt := 79) X dX12_isDebtLetter_75 (by decide) ?_
        exact g_zret X hQ dX12_isDebtLetter_79 ⟨Or.inr rfl, h⟩
  by_cases c2 : (x3_2 - x3_2 / 5 * 5) = 2
  · have h := h.2.2.1 c2
    refine g_tabI (tgt := 80) X dX12_isDebtLetter_19 c2 ⟨⟨by decide, by decide⟩, rfl⟩ (by decide) ?_
    refine g_aload_n X dX12_isDebtLetter_80 rfl 0 rfl ?_
    refine g_iload_n X dX12_isDebtLetter_81 rfl 2 rfl ?_
    refine cl_X12_112 X (by decide) (Nat.le_of_ble_eq_true rfl) dX12_isDebtLetter_82 h (fun r7 M8 h => ?_)
    exact g_zret X hQ dX12_isDebtLetter_85 h
  by_cases c3 : (x3_2 - x3_2 / 5 * 5) = 3
  · have h := h.2.2.2.1 c3
    refine g_tabI (tgt := 86) X dX12_isDebtLetter_19 c3 ⟨⟨by decide, by decide⟩, rfl⟩ (by decide) ?_
    refine g_iload_n X dX12_isDebtLetter_86 rfl 2 rfl ?_
    refine g_i2l X dX12_isDebtLetter_87 ?_
    refine g_ldc2 X dX12_isDebtLetter_88 m526 ?_
    refine g_ldc2 X dX12_isDebtLetter_91 m519 ?_
    refine cl_X12_103 X (by decide) (Nat.le_of_ble_eq_true rfl) dX12_isDebtLetter_94 h (fun r9 M10 h => ?_)
    exact g_zret X hQ dX12_isDebtLetter_97 h
  have h := h.2.2.2.2 c0 c1 c2 c3
  refine g_tabO (tgt := 98) X dX12_isDebtLetter_19 (by have e0 := lv_neT (a := 0) c0 (by decide); have e1 := lv_neT (a := 1) c1 (by decide); have e2 := lv_neT (a := 2) c2 (by decide); have e3 := lv_neT (a := 3) c3 (by decide); omega) (by decide) ?_
  refine g_iload_n X dX12_isDebtLetter_98 rfl 2 rfl ?_
  refine g_bipush (v := 44) X dX12_isDebtLetter_99 (by decide) ?_
  refine g_icmpne (tgt := 114) X dX12_isDebtLetter_101 (by decide) h (fun h => ?_) (fun h => ?_)
  · refine g_iconst (v := 0) X dX12_isDebtLetter_114 (by decide) ?_
    exact g_zret X hQ dX12_isDebtLetter_115 ⟨Or.inl rfl, h⟩
  · refine g_iload_n X dX12_isDebtLetter_104 rfl 3 rfl ?_
    refine g_bipush (v := 19) X dX12_isDebtLetter_105 (by decide) ?_
    refine g_icmpge (tgt := 114) X dX12_isDebtLetter_107 (by decide) h (fun h => ?_) (fun h => ?_)
    · refine g_iconst (v := 0) X dX12_isDebtLetter_114 (by decide) ?_
      exact g_zret X hQ dX12_isDebtLetter_115 ⟨Or.inl rfl, h⟩
    · refine g_iconst (v := 1) X dX12_isDebtLetter_110 (by decide) ?_
      refine g_goto (tgt := 115) X dX12_isDebtLetter_111 (by decide) ?_
      exact g_zret X hQ dX12_isDebtLetter_115 ⟨Or.inr rfl, h⟩
theorem cl_X12_143 {E : Ek} {x : MC} {cc : ByteArray} {nL hm pc : Nat} {M : Mem} {lv : List (Nat × Value)} {st : List Value} (X : Cx E x cc nL RX12 hm) {v1 : Int32} {Post : Int32 → Mem → Prop} (hr : 3 < hm) (hW : (st.map fun v => v.category).sum ≤ 8) (hd : decode cc pc = .ok (.invokevirtual 143, 3)) (h : wp_X12_isDebtLetter Post M v1) (kk : ∀ r M1, Post r M1 → G E x M1 (pc + 3) lv (.int r :: st)) : G E x M pc lv (.int v1 :: .ref (ad E 29) :: st) := k_I (fun hP hS hL => run_V X (w_X12_isDebtLetter E (xl x)  h) cw_X12_isDebtLetter m528 m529 m530 (⟨by decide, fun E f h => ⟨_, _, _, rfl, rfl, rfl⟩⟩ : OC 29 RX12) hr rfl hd hW hP hS hL) kk
theorem cw_X12_isGood : CW yX12_isGood cX12_isGood 2 (some .boolean) 1 := ⟨m539, m499, Nat.le_of_ble_eq_true rfl, by decide +kernel⟩
def wp_X12_isGood (Post : Int32 → Mem → Prop) (M : Mem) (v1 : Int32) : Prop :=
 (2 ≤ v1 →
  (¬ (rd M 29 2) = 0 →
   (¬ (rd M 29 3) = 0 →
    wp_X12_isDebtLetter (fun r1 M2 =>
     zb r1 ∧ Post r1 M2) M v1) ∧
   ((rd M 29 3) = 0 →
    wp_X12_isPersonLetter (fun r3 M4 =>
     zb r3 ∧ Post r3 M4) M v1)) ∧
  ((rd M 29 2) = 0 →
   wp_X12_isDoorLetter (fun r5 M6 =>
    zb r5 ∧ Post r5 M6) M v1)) ∧
 (¬ 2 ≤ v1 →
  (¬ v1 = 0 →
   vp_in 1 64 ∧
   (¬ (rd M 30 (1 : Int32).toNatClampNeg) = 59 →
    Post 0 M) ∧
   ((rd M 30 (1 : Int32).toNatClampNeg) = 59 →
    Post 1 M)) ∧
  (v1 = 0 →
   vp_in 0 64 ∧
   wp_X12_in (fun r7 M8 =>
    zb r7 ∧ Post r7 M8) M ((rd M 30 (0 : Int32).toNatClampNeg).toInt64) (50 : Int64) (54 : Int64)))
theorem w_X12_isGood (E : Ek) (l : Launch) {v1 : Int32} {M : Mem} {Post : Int32 → Mem → Prop} (h : wp_X12_isGood Post M v1) : ctI E l yX12_isGood cX12_isGood 2 (some .boolean) 4 [.ref (ad E 29), .int v1] M Post := by
  refine ct_of (by decide) (Nat.le_of_ble_eq_true rfl) (fun x X hQ => ?_)
  change G E x M 0 [(0, .ref (ad E 29)), (1, .int v1)] []
  refine g_iload_n X dX12_isGood_0 rfl 1 rfl ?_
  refine g_iconst (v := 2) X dX12_isGood_1 (by decide) ?_
  refine g_icmpge (tgt := 45) X dX12_isGood_2 (by decide) h (fun h => ?_) (fun h => ?_)
  · refine g_aload_n X dX12_isGood_45 rfl 0 rfl ?_
    refine fg_X12_116 X dX12_isGood_46 ?_
    refine g_ifne (tgt := 58) X dX12_isGood_49 (by decide) h (fun h => ?_) (fun h => ?_)
    · refine g_aload_n X dX12_isGood_58 rfl 0 rfl ?_
      refine fg_X12_125 X dX12_isGood_59 ?_
      refine g_ifne (tgt := 73) X dX12_isGood_62 (by decide) h (fun h => ?_) (fun h => ?_)
      · refine g_aload_n X dX12_isGood_73 rfl 0 rfl ?_
        refine g_iload_n X dX12_isGood_74 rfl 1 rfl ?_
        refine cl_X12_143 X (by decide) (Nat.le_of_ble_eq_true rfl) dX12_isGood_75 h (fun r1 M2 h => ?_)
        exact g_zret X hQ dX12_isGood_78 h
      · refine g_aload_n X dX12_isGood_65 rfl 0 rfl ?_
        refine g_iload_n X dX12_isGood_66 rfl 1 rfl ?_
        refine cl_X12_140 X (by decide) (Nat.le_of_ble_eq_true rfl) dX12_isGood_67 h (fun r3 M4 h => ?_)
        refine g_goto (tgt := 78) X dX12_isGood_70 (by decide) ?_
        exact g_zret X hQ dX12_isGood_78 h
    · refine g_aload_n X dX12_isGood_52 rfl 0 rfl ?_
      refine g_iload_n X dX12_isGood_53 rfl 1 rfl ?_
      refine cl_X12_137 X (by decide) (Nat.le_of_ble_eq_true rfl) dX12_isGood_54 h (fun r5 M6 h => ?_)
      exact g_zret X hQ dX12_isGood_57 h
  · refine g_iload_n X dX12_isGood_5 rfl 1 rfl ?_
    refine g_ifne (tgt := 28) X dX12_isGood_6 (by decide) h (fun h => ?_) (fun h => ?_)
    · refine g_aload_n X dX12_isGood_28 rfl 0 rfl ?_
      refine fg_X12_7 X dX12_isGood_29 ?_
      refine g_iconst (v := 1) X dX12_isGood_32 (by decide) ?_
      refine g_iald X ia_30 dX12_isGood_33 h (fun h => ?_)
      refine g_bipush (v := 59) X dX12_isGood_34 (by decide) ?_
      refine g_icmpne (tgt := 43) X dX12_isGood_36 (by decide) h (fun h => ?_) (fun h => ?_)
      · refine g_iconst (v := 0) X dX12_isGood_43 (by decide) ?_
        exact g_zret X hQ dX12_isGood_44 ⟨Or.inl rfl, h⟩
      · refine g_iconst (v := 1) X dX12_isGood_39 (by decide) ?_
        refine g_goto (tgt := 44) X dX12_isGood_40 (by decide) ?_
        exact g_zret X hQ dX12_isGood_44 ⟨Or.inr rfl, h⟩
    · refine g_aload_n X dX12_isGood_9 rfl 0 rfl ?_
      refine fg_X12_7 X dX12_isGood_10 ?_
      refine g_iconst (v := 0) X dX12_isGood_13 (by decide) ?_
      refine g_iald X ia_30 dX12_isGood_14 h (fun h => ?_)
      refine g_i2l X dX12_isGood_15 ?_
      refine g_ldc2 X dX12_isGood_16 m537 ?_
      refine g_ldc2 X dX12_isGood_19 m538 ?_
      refine cl_X12_103 X (by decide) (Nat.le_of_ble_eq_true rfl) dX12_isGood_22 h (fun r7 M8 h => ?_)
      refine g_goto (tgt := 44) X dX12_isGood_25 (by decide) ?_
      exact g_zret X hQ dX12_isGood_44 h
theorem cl_X12_146 {E : Ek} {x : MC} {cc : ByteArray} {nL hm pc : Nat} {M : Mem} {lv : List (Nat × Value)} {st : List Value} (X : Cx E x cc nL RX12 hm) {v1 : Int32} {Post : Int32 → Mem → Prop} (hr : 4 < hm) (hW : (st.map fun v => v.category).sum ≤ 8) (hd : decode cc pc = .ok (.invokevirtual 146, 3)) (h : wp_X12_isGood Post M v1) (kk : ∀ r M1, Post r M1 → G E x M1 (pc + 3) lv (.int r :: st)) : G E x M pc lv (.int v1 :: .ref (ad E 29) :: st) := k_I (fun hP hS hL => run_V X (w_X12_isGood E (xl x)  h) cw_X12_isGood m540 m541 m542 (⟨by decide, fun E f h => ⟨_, _, _, rfl, rfl, rfl⟩⟩ : OC 29 RX12) hr rfl hd hW hP hS hL) kk
theorem cw_X12_faultOf : CW yX12_faultOf cX12_faultOf 2 (some .int) 0 := ⟨m543, m499, Nat.le_of_ble_eq_true rfl, by decide +kernel⟩
def wp_X12_faultOf_b12 (Post : Int32 → Mem → Prop) (P12 : Mem → Int32 → Prop) (M : Mem) (v1 : Int32) : Prop :=
 ((rd M 29 1) ≤ v1 →
  Post v1 M) ∧
 (¬ (rd M 29 1) ≤ v1 →
  wp_X12_isGood (fun r3 M4 =>
   (r3 = 0 →
    Post v1 M4) ∧
   (¬ r3 = 0 →
    ∀ x1_5 : Int32, x1_5 = v1 + 1 →
    P12 M4 x1_5)) M v1)
def wp_X12_faultOf (Post : Int32 → Mem → Prop) (M : Mem) : Prop :=
 ∀ (P12 : Mem → Int32 → Prop) ,
  (∀ (M : Mem) (v1 : Int32), wp_X12_faultOf_b12 Post P12 M v1 → P12 M v1) →
 ∀ M1 : Mem, M1 = wr M 29 2 0 →
 ∀ M2 : Mem, M2 = wr M1 29 3 0 →
 P12 M2 0
theorem k_X12_faultOf_b12 {E : Ek} {x : MC} (X : Cx E x cX12_faultOf 2 RX12 5) {Post : Int32 → Mem → Prop} (hQ : QI E x Post (some .int)) {M : Mem} {v1 : Int32} (h : wp_X12_faultOf_b12 Post (fun M v1 => G E x M 12 [(0, .ref (ad E 29)), (1, .int v1)] []) M v1) : G E x M 12 [(0, .ref (ad E 29)), (1, .int v1)] [] := by
  refine g_iload_n X dX12_faultOf_12 rfl 1 rfl ?_
  refine g_aload_n X dX12_faultOf_13 rfl 0 rfl ?_
  refine fg_X12_107 X dX12_faultOf_14 ?_
  refine g_icmpge (tgt := 34) X dX12_faultOf_17 (by decide) h (fun h => ?_) (fun h => ?_)
  · refine g_iload_n X dX12_faultOf_34 rfl 1 rfl ?_
    exact g_iret X hQ dX12_faultOf_35 h
  · refine g_aload_n X dX12_faultOf_20 rfl 0 rfl ?_
    refine g_iload_n X dX12_faultOf_21 rfl 1 rfl ?_
    refine cl_X12_146 X (by decide) (Nat.le_of_ble_eq_true rfl) dX12_faultOf_22 h (fun r3 M4 h => ?_)
    refine g_ifeq (tgt := 34) X dX12_faultOf_25 (by decide) h (fun h => ?_) (fun h => ?_)
    · refine g_iload_n X dX12_faultOf_34 rfl 1 rfl ?_
      exact g_iret X hQ dX12_faultOf_35 h
    · refine g_iinc (w := 1) X dX12_faultOf_28 1 rfl (by decide) (Nat.le_of_ble_eq_true rfl) rfl (fun x1_5 => [(0, .ref (ad E 29)), (1, .int x1_5)]) (fun _ => rfl) h (fun x1_5 h => ?_)
      refine g_goto (tgt := 12) X dX12_faultOf_31 (by decide) ?_
      exact h
theorem w_X12_faultOf (E : Ek) (l : Launch) {M : Mem} {Post : Int32 → Mem → Prop} (h : wp_X12_faultOf Post M ) : ctI E l yX12_faultOf cX12_faultOf 2 (some .int) 5 [.ref (ad E 29)] M Post := by
  refine ct_of (by decide) (Nat.le_of_ble_eq_true rfl) (fun x X hQ => ?_)
  have h := h (fun M v1 => G E x M 12 [(0, .ref (ad E 29)), (1, .int v1)] []) (fun M v1 h => k_X12_faultOf_b12 X hQ  h)
  change G E x M 0 [(0, .ref (ad E 29))] []
  refine g_aload_n X dX12_faultOf_0 rfl 0 rfl ?_
  refine g_iconst (v := 0) X dX12_faultOf_1 (by decide) ?_
  refine fp_X12_116 X dX12_faultOf_2 h (fun M1 h => ?_)
  refine g_aload_n X dX12_faultOf_5 rfl 0 rfl ?_
  refine g_iconst (v := 0) X dX12_faultOf_6 (by decide) ?_
  refine fp_X12_125 X dX12_faultOf_7 h (fun M2 h => ?_)
  refine g_iconst (v := 0) X dX12_faultOf_10 (by decide) ?_
  refine g_istore_n (lv' := [(0, .ref (ad E 29)), (1, .int 0)]) X dX12_faultOf_11 rfl (Nat.le_of_ble_eq_true rfl) rfl rfl ?_
  exact h
theorem cl_X12_149 {E : Ek} {x : MC} {cc : ByteArray} {nL hm pc : Nat} {M : Mem} {lv : List (Nat × Value)} {st : List Value} (X : Cx E x cc nL RX12 hm) {Post : Int32 → Mem → Prop} (hr : 5 < hm) (hW : (st.map fun v => v.category).sum ≤ 8) (hd : decode cc pc = .ok (.invokevirtual 149, 3)) (h : wp_X12_faultOf Post M ) (kk : ∀ r M1, Post r M1 → G E x M1 (pc + 3) lv (.int r :: st)) : G E x M pc lv (.ref (ad E 29) :: st) := k_I (fun hP hS hL => run_V X (w_X12_faultOf E (xl x)  h) cw_X12_faultOf m544 m545 m546 (⟨by decide, fun E f h => ⟨_, _, _, rfl, rfl, rfl⟩⟩ : OC 29 RX12) hr rfl hd hW hP hS hL) kk
theorem cw_X12_fault : CW yX12_fault cX12_fault 1 (some .int) 0 := ⟨m547, m499, Nat.le_of_ble_eq_true rfl, by decide +kernel⟩
def wp_X12_fault (Post : Int32 → Mem → Prop) (M : Mem) : Prop :=
 wp_X12_faultOf (fun r1 M2 =>
  Post r1 M2) M 
theorem w_X12_fault (E : Ek) (l : Launch) {M : Mem} {Post : Int32 → Mem → Prop} (h : wp_X12_fault Post M ) : ctI E l yX12_fault cX12_fault 1 (some .int) 6 [.ref (ad E 29)] M Post := by
  refine ct_of (by decide) (Nat.le_of_ble_eq_true rfl) (fun x X hQ => ?_)
  change G E x M 0 [(0, .ref (ad E 29))] []
  refine g_aload_n X dX12_fault_0 rfl 0 rfl ?_
  refine cl_X12_149 X (by decide) (Nat.le_of_ble_eq_true rfl) dX12_fault_1 h (fun r1 M2 h => ?_)
  exact g_iret X hQ dX12_fault_4 h
theorem cw_X12_house : CW yX12_house cX12_house 3 (some .int) 0 := ⟨m569, m499, Nat.le_of_ble_eq_true rfl, by decide +kernel⟩
def wp_X12_house_b241 (Post : Int32 → Mem → Prop) (P92 : Mem → Int32 → Prop) (P165 : Mem → Int32 → Prop) (P241 : Mem → Int32 → Prop) (M : Mem) (v1 : Int32) : Prop :=
 ((rd M 29 7) ≤ v1 →
  vp_in 0 2 ∧
  ∀ M20 : Mem, M20 = wr M 37 (0 : Int32).toNatClampNeg 0 →
  vp_in 1 2 ∧
  ∀ M21 : Mem, M21 = wr M20 37 (1 : Int32).toNatClampNeg 1 →
  ∀ M22 : Mem, M22 = wr M21 29 8 0 →
  ∀ M23 : Mem, M23 = wr M22 29 31 0 →
  ∀ M24 : Mem, M24 = wr M23 29 9 ((rd M23 29 9) + 1) →
  ∀ M25 : Mem, M25 = wr M24 29 1 0 →
  Post (rd M25 29 6) M25) ∧
 (¬ (rd M 29 7) ≤ v1 →
  ∀ x2_26 : Int32, x2_26 = ((rd M 29 3) + 1) + ((5 : Int32) * v1) →
  vp_in x2_26 64 ∧
  vp_in v1 4 ∧
  ∀ M27 : Mem, M27 = wr M 38 v1.toNatClampNeg ((rd M 30 x2_26.toNatClampNeg) - 48) →
  vp_in (x2_26 + 1) 64 ∧
  vp_in v1 4 ∧
  ∀ M28 : Mem, M28 = wr M27 39 v1.toNatClampNeg ((rd M27 30 (x2_26 + 1).toNatClampNeg) - 48) →
  vp_in (x2_26 + 2) 64 ∧
  vp_in v1 4 ∧
  ∀ M29 : Mem, M29 = wr M28 40 v1.toNatClampNeg ((rd M28 30 (x2_26 + 2).toNatClampNeg) - 48) →
  vp_in (x2_26 + 3) 64 ∧
  vp_in v1 4 ∧
  ∀ M30 : Mem, M30 = wr M29 41 v1.toNatClampNeg ((rd M29 30 (x2_26 + 3).toNatClampNeg) - 48) →
  vp_in v1 4 ∧
  ∀ M31 : Mem, M31 = wr M30 42 v1.toNatClampNeg 0 →
  ∀ x1_32 : Int32, x1_32 = v1 + 1 →
  P241 M31 x1_32)
def wp_X12_house_b165 (Post : Int32 → Mem → Prop) (P92 : Mem → Int32 → Prop) (P165 : Mem → Int32 → Prop) (P241 : Mem → Int32 → Prop) (M : Mem) (v1 : Int32) : Prop :=
 ((rd M 29 6) ≤ v1 →
  P241 M 0) ∧
 (¬ (rd M 29 6) ≤ v1 →
  ∀ x2_13 : Int32, x2_13 = ((rd M 29 2) + 1) + ((4 : Int32) * v1) →
  vp_in x2_13 64 ∧
  wp_X12_kindBy (fun r14 M15 =>
   vp_in v1 4 ∧
   ∀ M16 : Mem, M16 = wr M15 34 v1.toNatClampNeg r14 →
   vp_in (x2_13 + 1) 64 ∧
   vp_in v1 4 ∧
   ∀ M17 : Mem, M17 = wr M16 35 v1.toNatClampNeg ((rd M16 30 (x2_13 + 1).toNatClampNeg) - 48) →
   vp_in (x2_13 + 2) 64 ∧
   vp_in v1 4 ∧
   ∀ M18 : Mem, M18 = wr M17 36 v1.toNatClampNeg ((rd M17 30 (x2_13 + 2).toNatClampNeg) - 48) →
   ∀ x1_19 : Int32, x1_19 = v1 + 1 →
   P165 M18 x1_19) M (rd M 30 x2_13.toNatClampNeg))
def wp_X12_house_b92 (Post : Int32 → Mem → Prop) (P92 : Mem → Int32 → Prop) (P165 : Mem → Int32 → Prop) (P241 : Mem → Int32 → Prop) (M : Mem) (v1 : Int32) : Prop :=
 ((rd M 29 5) ≤ v1 →
  P165 M 0) ∧
 (¬ (rd M 29 5) ≤ v1 →
  vp_in ((2 : Int32) + ((4 : Int32) * v1)) 64 ∧
  vp_in v1 6 ∧
  ∀ M7 : Mem, M7 = wr M 31 v1.toNatClampNeg ((rd M 30 ((2 : Int32) + ((4 : Int32) * v1)).toNatClampNeg) - 48) →
  vp_in ((3 : Int32) + ((4 : Int32) * v1)) 64 ∧
  vp_in v1 6 ∧
  ∀ M8 : Mem, M8 = wr M7 32 v1.toNatClampNeg ((rd M7 30 ((3 : Int32) + ((4 : Int32) * v1)).toNatClampNeg) - 48) →
  vp_in ((4 : Int32) + ((4 : Int32) * v1)) 64 ∧
  wp_X12_lockBy (fun r9 M10 =>
   vp_in v1 6 ∧
   ∀ M11 : Mem, M11 = wr M10 33 v1.toNatClampNeg r9 →
   ∀ x1_12 : Int32, x1_12 = v1 + 1 →
   P92 M11 x1_12) M8 (rd M8 30 ((4 : Int32) + ((4 : Int32) * v1)).toNatClampNeg))
def wp_X12_house (Post : Int32 → Mem → Prop) (M : Mem) : Prop :=
 ∀ (P92 : Mem → Int32 → Prop) (P165 : Mem → Int32 → Prop) (P241 : Mem → Int32 → Prop) ,
  (∀ (M : Mem) (v1 : Int32), wp_X12_house_b92 Post P92 P165 P241 M v1 → P92 M v1) →
  (∀ (M : Mem) (v1 : Int32), wp_X12_house_b165 Post P92 P165 P241 M v1 → P165 M v1) →
  (∀ (M : Mem) (v1 : Int32), wp_X12_house_b241 Post P92 P165 P241 M v1 → P241 M v1) →
 wp_X12_faultOf (fun r1 M2 =>
  (r1 < (rd M2 29 1) →
   Post (-103) M2) ∧
  (¬ r1 < (rd M2 29 1) →
   ((rd M2 29 3) = 0 →
    Post (-103) M2) ∧
   (¬ (rd M2 29 3) = 0 →
    ((((rd M2 29 1) - (rd M2 29 3)) - ((rd M2 29 1) - (rd M2 29 3)) / 5 * 5) = 0 →
     vp_in 0 64 ∧
     ∀ M3 : Mem, M3 = wr M2 29 4 ((rd M2 30 (0 : Int32).toNatClampNeg) - 48) →
     ∀ M4 : Mem, M4 = wr M3 29 5 (((rd M3 29 2) - 1) / 4) →
     ∀ M5 : Mem, M5 = wr M4 29 6 (((rd M4 29 3) - (rd M4 29 2)) / 4) →
     ∀ M6 : Mem, M6 = wr M5 29 7 (((rd M5 29 1) - (rd M5 29 3)) / 5) →
     P92 M6 0) ∧
    (¬ (((rd M2 29 1) - (rd M2 29 3)) - ((rd M2 29 1) - (rd M2 29 3)) / 5 * 5) = 0 →
     Post (-103) M2)))) M 
theorem k_X12_house_b241 {E : Ek} {x : MC} (X : Cx E x cX12_house 3 RX12 6) {Post : Int32 → Mem → Prop} (hQ : QI E x Post (some .int)) {M : Mem} {v1 : Int32} (h : wp_X12_house_b241 Post (fun M v1 => G E x M 92 [(0, .ref (ad E 29)), (1, .int v1)] []) (fun M v1 => G E x M 165 [(0, .ref (ad E 29)), (1, .int v1)] []) (fun M v1 => G E x M 241 [(0, .ref (ad E 29)), (1, .int v1)] []) M v1) : G E x M 241 [(0, .ref (ad E 29)), (1, .int v1)] [] := by
  refine g_iload_n X dX12_house_241 rfl 1 rfl ?_
  refine g_aload_n X dX12_house_242 rfl 0 rfl ?_
  refine fg_X12_162 X dX12_house_243 ?_
  refine g_icmpge (tgt := 339) X dX12_house_246 (by decide) h (fun h => ?_) (fun h => ?_)
  · refine g_aload_n X dX12_house_339 rfl 0 rfl ?_
    refine fg_X12_31 X dX12_house_340 ?_
    refine g_iconst (v := 0) X dX12_house_343 (by decide) ?_
    refine g_iconst (v := 0) X dX12_house_344 (by decide) ?_
    refine g_iast X ia_37 dX12_house_345 h (fun M20 h => ?_)
    refine g_aload_n X dX12_house_346 rfl 0 rfl ?_
    refine fg_X12_31 X dX12_house_347 ?_
    refine g_iconst (v := 1) X dX12_house_350 (by decide) ?_
    refine g_iconst (v := 1) X dX12_house_351 (by decide) ?_
    refine g_iast X ia_37 dX12_house_352 h (fun M21 h => ?_)
    refine g_aload_n X dX12_house_353 rfl 0 rfl ?_
    refine g_iconst (v := 0) X dX12_house_354 (by decide) ?_
    refine fp_X12_168 X dX12_house_355 h (fun M22 h => ?_)
    refine g_aload_n X dX12_house_358 rfl 0 rfl ?_
    refine g_iconst (v := 0) X dX12_house_359 (by decide) ?_
    refine fp_X12_171 X dX12_house_360 h (fun M23 h => ?_)
    refine g_aload_n X dX12_house_363 rfl 0 rfl ?_
    refine g_dup X dX12_house_364 rfl ?_
    refine fg_X12_174 X dX12_house_365 ?_
    refine g_iconst (v := 1) X dX12_house_368 (by decide) ?_
    refine g_iadd X dX12_house_369 ?_
    refine fp_X12_174 X dX12_house_370 h (fun M24 h => ?_)
    refine g_aload_n X dX12_house_373 rfl 0 rfl ?_
    refine g_iconst (v := 0) X dX12_house_374 (by decide) ?_
    refine fp_X12_107 X dX12_house_375 h (fun M25 h => ?_)
    refine g_aload_n X dX12_house_378 rfl 0 rfl ?_
    refine fg_X12_159 X dX12_house_379 ?_
    exact g_iret X hQ dX12_house_382 h
  · refine g_aload_n X dX12_house_249 rfl 0 rfl ?_
    refine fg_X12_125 X dX12_house_250 ?_
    refine g_iconst (v := 1) X dX12_house_253 (by decide) ?_
    refine g_iadd X dX12_house_254 ?_
    refine g_iconst (v := 5) X dX12_house_255 (by decide) ?_
    refine g_iload_n X dX12_house_256 rfl 1 rfl ?_
    refine g_imul X dX12_house_257 ?_
    refine g_iadd X dX12_house_258 ?_
    refine g_nm h (fun x2_26 h => ?_)
    refine g_istore_n (lv' := [(0, .ref (ad E 29)), (1, .int v1), (2, .int x2_26)]) X dX12_house_259 rfl (Nat.le_of_ble_eq_true rfl) rfl rfl ?_
    refine g_aload_n X dX12_house_260 rfl 0 rfl ?_
    refine fg_X12_34 X dX12_house_261 ?_
    refine g_iload_n X dX12_house_264 rfl 1 rfl ?_
    refine g_aload_n X dX12_house_265 rfl 0 rfl ?_
    refine fg_X12_7 X dX12_house_266 ?_
    refine g_iload_n X dX12_house_269 rfl 2 rfl ?_
    refine g_iald X ia_30 dX12_house_270 h (fun h => ?_)
    refine g_bipush (v := 48) X dX12_house_271 (by decide) ?_
    refine g_isub X dX12_house_273 ?_
    refine g_iast X ia_38 dX12_house_274 h (fun M27 h => ?_)
    refine g_aload_n X dX12_house_275 rfl 0 rfl ?_
    refine fg_X12_37 X dX12_house_276 ?_
    refine g_iload_n X dX12_house_279 rfl 1 rfl ?_
    refine g_aload_n X dX12_house_280 rfl 0 rfl ?_
    refine fg_X12_7 X dX12_house_281 ?_
    refine g_iload_n X dX12_house_284 rfl 2 rfl ?_
    refine g_iconst (v := 1) X dX12_house_285 (by decide) ?_
    refine g_iadd X dX12_house_286 ?_
    refine g_iald X ia_30 dX12_house_287 h (fun h => ?_)
    refine g_bipush (v := 48) X dX12_house_288 (by decide) ?_
    refine g_isub X dX12_house_290 ?_
    refine g_iast X ia_39 dX12_house_291 h (fun M28 h => ?_)
    refine g_aload_n X dX12_house_292 rfl 0 rfl ?_
    refine fg_X12_40 X dX12_house_293 ?_
    refine g_iload_n X dX12_house_296 rfl 1 rfl ?_
    refine g_aload_n X dX12_house_297 rfl 0 rfl ?_
    refine fg_X12_7 X dX12_house_298 ?_
    refine g_iload_n X dX12_house_301 rfl 2 rfl ?_
    refine g_iconst (v := 2) X dX12_house_302 (by decide) ?_
    refine g_iadd X dX12_house_303 ?_
    refine g_iald X ia_30 dX12_house_304 h (fun h => ?_)
    refine g_bipush (v := 48) X dX12_house_305 (by decide) ?_
    refine g_isub X dX12_house_307 ?_
    refine g_iast X ia_40 dX12_house_308 h (fun M29 h => ?_)
    refine g_aload_n X dX12_house_309 rfl 0 rfl ?_
    refine fg_X12_43 X dX12_house_310 ?_
    refine g_iload_n X dX12_house_313 rfl 1 rfl ?_
    refine g_aload_n X dX12_house_314 rfl 0 rfl ?_
    refine fg_X12_7 X dX12_house_315 ?_
    refine g_iload_n X dX12_house_318 rfl 2 rfl ?_
    refine g_iconst (v := 3) X dX12_house_319 (by decide) ?_
    refine g_iadd X dX12_house_320 ?_
    refine g_iald X ia_30 dX12_house_321 h (fun h => ?_)
    refine g_bipush (v := 48) X dX12_house_322 (by decide) ?_
    refine g_isub X dX12_house_324 ?_
    refine g_iast X ia_41 dX12_house_325 h (fun M30 h => ?_)
    refine g_aload_n X dX12_house_326 rfl 0 rfl ?_
    refine fg_X12_46 X dX12_house_327 ?_
    refine g_iload_n X dX12_house_330 rfl 1 rfl ?_
    refine g_iconst (v := 0) X dX12_house_331 (by decide) ?_
    refine g_iast X ia_42 dX12_house_332 h (fun M31 h => ?_)
    refine g_iinc (w := 1) X dX12_house_333 1 rfl (by decide) (Nat.le_of_ble_eq_true rfl) rfl (fun x1_32 => [(0, .ref (ad E 29)), (1, .int x1_32), (2, .int x2_26)]) (fun _ => rfl) h (fun x1_32 h => ?_)
    refine g_goto (tgt := 241) X dX12_house_336 (by decide) ?_
    exact g_sub [0, 1] rfl h
theorem k_X12_house_b165 {E : Ek} {x : MC} (X : Cx E x cX12_house 3 RX12 6) {Post : Int32 → Mem → Prop} (hQ : QI E x Post (some .int)) {M : Mem} {v1 : Int32} (h : wp_X12_house_b165 Post (fun M v1 => G E x M 92 [(0, .ref (ad E 29)), (1, .int v1)] []) (fun M v1 => G E x M 165 [(0, .ref (ad E 29)), (1, .int v1)] []) (fun M v1 => G E x M 241 [(0, .ref (ad E 29)), (1, .int v1)] []) M v1) : G E x M 165 [(0, .ref (ad E 29)), (1, .int v1)] [] := by
  refine g_iload_n X dX12_house_165 rfl 1 rfl ?_
  refine g_aload_n X dX12_house_166 rfl 0 rfl ?_
  refine fg_X12_159 X dX12_house_167 ?_
  refine g_icmpge (tgt := 239) X dX12_house_170 (by decide) h (fun h => ?_) (fun h => ?_)
  · refine g_iconst (v := 0) X dX12_house_239 (by decide) ?_
    refine g_istore_n (lv' := [(0, .ref (ad E 29)), (1, .int 0)]) X dX12_house_240 rfl (Nat.le_of_ble_eq_true rfl) rfl rfl ?_
    exact h
  · refine g_aload_n X dX12_house_173 rfl 0 rfl ?_
    refine fg_X12_116 X dX12_house_174 ?_
    refine g_iconst (v := 1) X dX12_house_177 (by decide) ?_
    refine g_iadd X dX12_house_178 ?_
    refine g_iconst (v := 4) X dX12_house_179 (by decide) ?_
    refine g_iload_n X dX12_house_180 rfl 1 rfl ?_
    refine g_imul X dX12_house_181 ?_
    refine g_iadd X dX12_house_182 ?_
    refine g_nm h (fun x2_13 h => ?_)
    refine g_istore_n (lv' := [(0, .ref (ad E 29)), (1, .int v1), (2, .int x2_13)]) X dX12_house_183 rfl (Nat.le_of_ble_eq_true rfl) rfl rfl ?_
    refine g_aload_n X dX12_house_184 rfl 0 rfl ?_
    refine fg_X12_22 X dX12_house_185 ?_
    refine g_iload_n X dX12_house_188 rfl 1 rfl ?_
    refine g_aload_n X dX12_house_189 rfl 0 rfl ?_
    refine fg_X12_7 X dX12_house_190 ?_
    refine g_iload_n X dX12_house_193 rfl 2 rfl ?_
    refine g_iald X ia_30 dX12_house_194 h (fun h => ?_)
    refine cl_X12_119 X (by decide) (Nat.le_of_ble_eq_true rfl) dX12_house_195 h (fun r14 M15 h => ?_)
    refine g_iast X ia_34 dX12_house_198 h (fun M16 h => ?_)
    refine g_aload_n X dX12_house_199 rfl 0 rfl ?_
    refine fg_X12_25 X dX12_house_200 ?_
    refine g_iload_n X dX12_house_203 rfl 1 rfl ?_
    refine g_aload_n X dX12_house_204 rfl 0 rfl ?_
    refine fg_X12_7 X dX12_house_205 ?_
    refine g_iload_n X dX12_house_208 rfl 2 rfl ?_
    refine g_iconst (v := 1) X dX12_house_209 (by decide) ?_
    refine g_iadd X dX12_house_210 ?_
    refine g_iald X ia_30 dX12_house_211 h (fun h => ?_)
    refine g_bipush (v := 48) X dX12_house_212 (by decide) ?_
    refine g_isub X dX12_house_214 ?_
    refine g_iast X ia_35 dX12_house_215 h (fun M17 h => ?_)
    refine g_aload_n X dX12_house_216 rfl 0 rfl ?_
    refine fg_X12_28 X dX12_house_217 ?_
    refine g_iload_n X dX12_house_220 rfl 1 rfl ?_
    refine g_aload_n X dX12_house_221 rfl 0 rfl ?_
    refine fg_X12_7 X dX12_house_222 ?_
    refine g_iload_n X dX12_house_225 rfl 2 rfl ?_
    refine g_iconst (v := 2) X dX12_house_226 (by decide) ?_
    refine g_iadd X dX12_house_227 ?_
    refine g_iald X ia_30 dX12_house_228 h (fun h => ?_)
    refine g_bipush (v := 48) X dX12_house_229 (by decide) ?_
    refine g_isub X dX12_house_231 ?_
    refine g_iast X ia_36 dX12_house_232 h (fun M18 h => ?_)
    refine g_iinc (w := 1) X dX12_house_233 1 rfl (by decide) (Nat.le_of_ble_eq_true rfl) rfl (fun x1_19 => [(0, .ref (ad E 29)), (1, .int x1_19), (2, .int x2_13)]) (fun _ => rfl) h (fun x1_19 h => ?_)
    refine g_goto (tgt := 165) X dX12_house_236 (by decide) ?_
    exact g_sub [0, 1] rfl h
theorem k_X12_house_b92 {E : Ek} {x : MC} (X : Cx E x cX12_house 3 RX12 6) {Post : Int32 → Mem → Prop} (hQ : QI E x Post (some .int)) {M : Mem} {v1 : Int32} (h : wp_X12_house_b92 Post (fun M v1 => G E x M 92 [(0, .ref (ad E 29)), (1, .int v1)] []) (fun M v1 => G E x M 165 [(0, .ref (ad E 29)), (1, .int v1)] []) (fun M v1 => G E x M 241 [(0, .ref (ad E 29)), (1, .int v1)] []) M v1) : G E x M 92 [(0, .ref (ad E 29)), (1, .int v1)] [] := by
  refine g_iload_n X dX12_house_92 rfl 1 rfl ?_
  refine g_aload_n X dX12_house_93 rfl 0 rfl ?_
  refine fg_X12_156 X dX12_house_94 ?_
  refine g_icmpge (tgt := 163) X dX12_house_97 (by decide) h (fun h => ?_) (fun h => ?_)
  · refine g_iconst (v := 0) X dX12_house_163 (by decide) ?_
    refine g_istore_n (lv' := [(0, .ref (ad E 29)), (1, .int 0)]) X dX12_house_164 rfl (Nat.le_of_ble_eq_true rfl) rfl rfl ?_
    exact h
  · refine g_aload_n X dX12_house_100 rfl 0 rfl ?_
    refine fg_X12_13 X dX12_house_101 ?_
    refine g_iload_n X dX12_house_104 rfl 1 rfl ?_
    refine g_aload_n X dX12_house_105 rfl 0 rfl ?_
    refine fg_X12_7 X dX12_house_106 ?_
    refine g_iconst (v := 2) X dX12_house_109 (by decide) ?_
    refine g_iconst (v := 4) X dX12_house_110 (by decide) ?_
    refine g_iload_n X dX12_house_111 rfl 1 rfl ?_
    refine g_imul X dX12_house_112 ?_
    refine g_iadd X dX12_house_113 ?_
    refine g_iald X ia_30 dX12_house_114 h (fun h => ?_)
    refine g_bipush (v := 48) X dX12_house_115 (by decide) ?_
    refine g_isub X dX12_house_117 ?_
    refine g_iast X ia_31 dX12_house_118 h (fun M7 h => ?_)
    refine g_aload_n X dX12_house_119 rfl 0 rfl ?_
    refine fg_X12_16 X dX12_house_120 ?_
    refine g_iload_n X dX12_house_123 rfl 1 rfl ?_
    refine g_aload_n X dX12_house_124 rfl 0 rfl ?_
    refine fg_X12_7 X dX12_house_125 ?_
    refine g_iconst (v := 3) X dX12_house_128 (by decide) ?_
    refine g_iconst (v := 4) X dX12_house_129 (by decide) ?_
    refine g_iload_n X dX12_house_130 rfl 1 rfl ?_
    refine g_imul X dX12_house_131 ?_
    refine g_iadd X dX12_house_132 ?_
    refine g_iald X ia_30 dX12_house_133 h (fun h => ?_)
    refine g_bipush (v := 48) X dX12_house_134 (by decide) ?_
    refine g_isub X dX12_house_136 ?_
    refine g_iast X ia_32 dX12_house_137 h (fun M8 h => ?_)
    refine g_aload_n X dX12_house_138 rfl 0 rfl ?_
    refine fg_X12_19 X dX12_house_139 ?_
    refine g_iload_n X dX12_house_142 rfl 1 rfl ?_
    refine g_aload_n X dX12_house_143 rfl 0 rfl ?_
    refine fg_X12_7 X dX12_house_144 ?_
    refine g_iconst (v := 4) X dX12_house_147 (by decide) ?_
    refine g_iconst (v := 4) X dX12_house_148 (by decide) ?_
    refine g_iload_n X dX12_house_149 rfl 1 rfl ?_
    refine g_imul X dX12_house_150 ?_
    refine g_iadd X dX12_house_151 ?_
    refine g_iald X ia_30 dX12_house_152 h (fun h => ?_)
    refine cl_X12_165 X (by decide) (Nat.le_of_ble_eq_true rfl) dX12_house_153 h (fun r9 M10 h => ?_)
    refine g_iast X ia_33 dX12_house_156 h (fun M11 h => ?_)
    refine g_iinc (w := 1) X dX12_house_157 1 rfl (by decide) (Nat.le_of_ble_eq_true rfl) rfl (fun x1_12 => [(0, .ref (ad E 29)), (1, .int x1_12)]) (fun _ => rfl) h (fun x1_12 h => ?_)
    refine g_goto (tgt := 92) X dX12_house_160 (by decide) ?_
    exact h
theorem w_X12_house (E : Ek) (l : Launch) {M : Mem} {Post : Int32 → Mem → Prop} (h : wp_X12_house Post M ) : ctI E l yX12_house cX12_house 3 (some .int) 6 [.ref (ad E 29)] M Post := by
  refine ct_of (by decide) (Nat.le_of_ble_eq_true rfl) (fun x X hQ => ?_)
  have h := h (fun M v1 => G E x M 92 [(0, .ref (ad E 29)), (1, .int v1)] []) (fun M v1 => G E x M 165 [(0, .ref (ad E 29)), (1, .int v1)] []) (fun M v1 => G E x M 241 [(0, .ref (ad E 29)), (1, .int v1)] []) (fun M v1 h => k_X12_house_b92 X hQ  h) (fun M v1 h => k_X12_house_b165 X hQ  h) (fun M v1 h => k_X12_house_b241 X hQ  h)
  change G E x M 0 [(0, .ref (ad E 29))] []
  refine g_aload_n X dX12_house_0 rfl 0 rfl ?_
  refine cl_X12_149 X (by decide) (Nat.le_of_ble_eq_true rfl) dX12_house_1 h (fun r1 M2 h => ?_)
  refine g_aload_n X dX12_house_4 rfl 0 rfl ?_
  refine fg_X12_107 X dX12_house_5 ?_
  refine g_icmplt (tgt := 32) X dX12_house_8 (by decide) h (fun h => ?_) (fun h => ?_)
  · refine g_bipush (v := (-103)) X dX12_house_32 (by decide) ?_
    exact g_iret X hQ dX12_house_34 h
  · refine g_aload_n X dX12_house_11 rfl 0 rfl ?_
    refine fg_X12_125 X dX12_house_12 ?_
    refine g_ifeq (tgt := 32) X dX12_house_15 (by decide) h (fun h => ?_) (fun h => ?_)
    · refine g_bipush (v := (-103)) X dX12_house_32 (by decide) ?_
      exact g_iret X hQ dX12_house_34 h
    · refine g_aload_n X dX12_house_18 rfl 0 rfl ?_
      refine fg_X12_107 X dX12_house_19 ?_
      refine g_aload_n X dX12_house_22 rfl 0 rfl ?_
      refine fg_X12_125 X dX12_house_23 ?_
      refine g_isub X dX12_house_26 ?_
      refine g_iconst (v := 5) X dX12_house_27 (by decide) ?_
      refine g_irem X dX12_house_28 ⟨by decide, h⟩ (fun h => ?_)
      refine g_ifeq (tgt := 35) X dX12_house_29 (by decide) h (fun h => ?_) (fun h => ?_)
      · refine g_aload_n X dX12_house_35 rfl 0 rfl ?_
        refine g_aload_n X dX12_house_36 rfl 0 rfl ?_
        refine fg_X12_7 X dX12_house_37 ?_
        refine g_iconst (v := 0) X dX12_house_40 (by decide) ?_
        refine g_iald X ia_30 dX12_house_41 h (fun h => ?_)
        refine g_bipush (v := 48) X dX12_house_42 (by decide) ?_
        refine g_isub X dX12_house_44 ?_
        refine fp_X12_153 X dX12_house_45 h (fun M3 h => ?_)
        refine g_aload_n X dX12_house_48 rfl 0 rfl ?_
        refine g_aload_n X dX12_house_49 rfl 0 rfl ?_
        refine fg_X12_116 X dX12_house_50 ?_
        refine g_iconst (v := 1) X dX12_house_53 (by decide) ?_
        refine g_isub X dX12_house_54 ?_
        refine g_iconst (v := 4) X dX12_house_55 (by decide) ?_
        refine g_idiv X dX12_house_56 ⟨by decide, h⟩ (fun h => ?_)
        refine fp_X12_156 X dX12_house_57 h (fun M4 h => ?_)
        refine g_aload_n X dX12_house_60 rfl 0 rfl ?_
        refine g_aload_n X dX12_house_61 rfl 0 rfl ?_
        refine fg_X12_125 X dX12_house_62 ?_
        refine g_aload_n X dX12_house_65 rfl 0 rfl ?_
        refine fg_X12_116 X dX12_house_66 ?_
        refine g_isub X dX12_house_69 ?_
        refine g_iconst (v := 4) X dX12_house_70 (by decide) ?_
        refine g_idiv X dX12_house_71 ⟨by decide, h⟩ (fun h => ?_)
        refine fp_X12_159 X dX12_house_72 h (fun M5 h => ?_)
        refine g_aload_n X dX12_house_75 rfl 0 rfl ?_
        refine g_aload_n X dX12_house_76 rfl 0 rfl ?_
        refine fg_X12_107 X dX12_house_77 ?_
        refine g_aload_n X dX12_house_80 rfl 0 rfl ?_
        refine fg_X12_125 X dX12_house_81 ?_
        refine g_isub X dX12_house_84 ?_
        refine g_iconst (v := 5) X dX12_house_85 (by decide) ?_
        refine g_idiv X dX12_house_86 ⟨by decide, h⟩ (fun h => ?_)
        refine fp_X12_162 X dX12_house_87 h (fun M6 h => ?_)
        refine g_iconst (v := 0) X dX12_house_90 (by decide) ?_
        refine g_istore_n (lv' := [(0, .ref (ad E 29)), (1, .int 0)]) X dX12_house_91 rfl (Nat.le_of_ble_eq_true rfl) rfl rfl ?_
        exact h
      · refine g_bipush (v := (-103)) X dX12_house_32 (by decide) ?_
        exact g_iret X hQ dX12_house_34 h
