theorem cw_X12_owe : CW yX12_owe cX12_owe 4 (some .int) 2 := ⟨m660, m499, Nat.le_of_ble_eq_true rfl, by decide +kernel⟩
def wp_X12_owe (Post : Int32 → Mem → Prop) (M : Mem) (v1 : Int32) (v2 : Int32) : Prop :=
 wp_X12_isDebt (fun r1 M2 =>
  (¬ r1 = 0 →
   wp_X12_in (fun r3 M4 =>
    (¬ r3 = 0 →
     vp_in v1 4 ∧
     ∀ x3_5 : Int32, x3_5 = rd M4 41 v1.toNatClampNeg →
     vp_in v1 4 ∧
     ∀ M6 : Mem, M6 = wr M4 41 v1.toNatClampNeg v2 →
     vp_in v1 4 ∧
     ∀ M7 : Mem, M7 = wr M6 42 v1.toNatClampNeg 0 →
     Post x3_5 M7) ∧
    (r3 = 0 →
     Post (-102) M4)) M2 (v2.toInt64) (1 : Int64) (9 : Int64)) ∧
  (r1 = 0 →
   Post (-101) M2)) M v1
theorem w_X12_owe (E : Ek) (l : Launch) {v1 : Int32} {v2 : Int32} {M : Mem} {Post : Int32 → Mem → Prop} (h : wp_X12_owe Post M v1 v2) : ctI E l yX12_owe cX12_owe 4 (some .int) 3 [.ref (ad E 29), .int v1, .int v2] M Post := by
  refine ct_of (by decide) (Nat.le_of_ble_eq_true rfl) (fun x X hQ => ?_)
  change G E x M 0 [(0, .ref (ad E 29)), (1, .int v1), (2, .int v2)] []
  refine g_aload_n X dX12_owe_0 rfl 0 rfl ?_
  refine g_iload_n X dX12_owe_1 rfl 1 rfl ?_
  refine cl_X12_230 X (by decide) (Nat.le_of_ble_eq_true rfl) dX12_owe_2 h (fun r1 M2 h => ?_)
  refine g_ifne (tgt := 11) X dX12_owe_5 (by decide) h (fun h => ?_) (fun h => ?_)
  · refine g_iload_n X dX12_owe_11 rfl 2 rfl ?_
    refine g_i2l X dX12_owe_12 ?_
    refine g_lconst (v := 1) X dX12_owe_13 (by decide) ?_
    refine g_ldc2 X dX12_owe_14 m658 ?_
    refine cl_X12_103 X (by decide) (Nat.le_of_ble_eq_true rfl) dX12_owe_17 h (fun r3 M4 h => ?_)
    refine g_ifne (tgt := 26) X dX12_owe_20 (by decide) h (fun h => ?_) (fun h => ?_)
    · refine g_aload_n X dX12_owe_26 rfl 0 rfl ?_
      refine fg_X12_43 X dX12_owe_27 ?_
      refine g_iload_n X dX12_owe_30 rfl 1 rfl ?_
      refine g_iald X ia_41 dX12_owe_31 h (fun h => ?_)
      refine g_nm h (fun x3_5 h => ?_)
      refine g_istore_n (lv' := [(0, .ref (ad E 29)), (1, .int v1), (2, .int v2), (3, .int x3_5)]) X dX12_owe_32 rfl (Nat.le_of_ble_eq_true rfl) rfl rfl ?_
      refine g_aload_n X dX12_owe_33 rfl 0 rfl ?_
      refine fg_X12_43 X dX12_owe_34 ?_
      refine g_iload_n X dX12_owe_37 rfl 1 rfl ?_
      refine g_iload_n X dX12_owe_38 rfl 2 rfl ?_
      refine g_iast X ia_41 dX12_owe_39 h (fun M6 h => ?_)
      refine g_aload_n X dX12_owe_40 rfl 0 rfl ?_
      refine fg_X12_46 X dX12_owe_41 ?_
      refine g_iload_n X dX12_owe_44 rfl 1 rfl ?_
      refine g_iconst (v := 0) X dX12_owe_45 (by decide) ?_
      refine g_iast X ia_42 dX12_owe_46 h (fun M7 h => ?_)
      refine g_iload_n X dX12_owe_47 rfl 3 rfl ?_
      exact g_iret X hQ dX12_owe_48 h
    · refine g_bipush (v := (-102)) X dX12_owe_23 (by decide) ?_
      exact g_iret X hQ dX12_owe_25 h
  · refine g_bipush (v := (-101)) X dX12_owe_8 (by decide) ?_
    exact g_iret X hQ dX12_owe_10 h
theorem cw_X12_layFar : CW yX12_layFar cX12_layFar 7 none 2 := ⟨m662, m499, Nat.le_of_ble_eq_true rfl, by decide +kernel⟩
def wp_X12_layFar_b119 (Post : Mem → Prop) (v1 : Int32) (v2 : Int32) (P2 : Mem → Int32 → Prop) (P33 : Mem → Int32 → Prop) (P44 : Mem → Int32 → Int32 → Prop) (P56 : Mem → Int32 → Int32 → Int32 → Prop) (M : Mem) (v3 : Int32) (v4 : Int32) (v5 : Int32) (s1 : Int32) : Prop :=
 vp_in v4 6 ∧
 vp_in s1 6 ∧
 ∀ M11 : Mem, M11 = wr M 46 s1.toNatClampNeg (rd M 46 v4.toNatClampNeg) →
 ∀ x5_12 : Int32, x5_12 = v5 + 1 →
 P56 M11 v3 v4 x5_12
def wp_X12_layFar_b56 (Post : Mem → Prop) (v1 : Int32) (v2 : Int32) (P2 : Mem → Int32 → Prop) (P33 : Mem → Int32 → Prop) (P44 : Mem → Int32 → Int32 → Prop) (P56 : Mem → Int32 → Int32 → Int32 → Prop) (M : Mem) (v3 : Int32) (v4 : Int32) (v5 : Int32) : Prop :=
 ((rd M 29 5) ≤ v5 →
  ∀ x4_6 : Int32, x4_6 = v4 + 1 →
  P44 M v3 x4_6) ∧
 (¬ (rd M 29 5) ≤ v5 →
  wp_X12_through (fun r7 M8 =>
   (r7 = (-1) →
    wp_X12_layFar_b119 Post v1 v2 P2 P33 P44 P56 M8 v3 v4 v5 v4) ∧
   (¬ r7 = (-1) →
    vp_in r7 6 ∧
    vp_in v4 6 ∧
    ((rd M8 46 v4.toNatClampNeg) ≤ ((rd M8 46 r7.toNatClampNeg) + 1) →
     wp_X12_layFar_b119 Post v1 v2 P2 P33 P44 P56 M8 v3 v4 v5 v4) ∧
    (¬ (rd M8 46 v4.toNatClampNeg) ≤ ((rd M8 46 r7.toNatClampNeg) + 1) →
     vp_in r7 6 ∧
     vp_in v4 6 ∧
     ∀ M9 : Mem, M9 = wr M8 46 v4.toNatClampNeg ((rd M8 46 r7.toNatClampNeg) + 1) →
     ∀ x5_10 : Int32, x5_10 = v5 + 1 →
     P56 M9 v3 v4 x5_10))) M v1 v5 v4)
def wp_X12_layFar_b44 (Post : Mem → Prop) (v1 : Int32) (v2 : Int32) (P2 : Mem → Int32 → Prop) (P33 : Mem → Int32 → Prop) (P44 : Mem → Int32 → Int32 → Prop) (P56 : Mem → Int32 → Int32 → Int32 → Prop) (M : Mem) (v3 : Int32) (v4 : Int32) : Prop :=
 ((rd M 29 4) ≤ v4 →
  ∀ x3_5 : Int32, x3_5 = v3 + 1 →
  P33 M x3_5) ∧
 (¬ (rd M 29 4) ≤ v4 →
  P56 M v3 v4 0)
def wp_X12_layFar_b33 (Post : Mem → Prop) (v1 : Int32) (v2 : Int32) (P2 : Mem → Int32 → Prop) (P33 : Mem → Int32 → Prop) (P44 : Mem → Int32 → Int32 → Prop) (P56 : Mem → Int32 → Int32 → Int32 → Prop) (M : Mem) (v3 : Int32) : Prop :=
 ((rd M 29 4) ≤ v3 →
  Post M) ∧
 (¬ (rd M 29 4) ≤ v3 →
  P44 M v3 0)
def wp_X12_layFar_b2 (Post : Mem → Prop) (v1 : Int32) (v2 : Int32) (P2 : Mem → Int32 → Prop) (P33 : Mem → Int32 → Prop) (P44 : Mem → Int32 → Int32 → Prop) (P56 : Mem → Int32 → Int32 → Int32 → Prop) (M : Mem) (v3 : Int32) : Prop :=
 (6 ≤ v3 →
  P33 M 0) ∧
 (¬ 6 ≤ v3 →
  (¬ v3 = v2 →
   vp_in v3 6 ∧
   ∀ M1 : Mem, M1 = wr M 46 v3.toNatClampNeg 99 →
   ∀ x3_2 : Int32, x3_2 = v3 + 1 →
   P2 M1 x3_2) ∧
  (v3 = v2 →
   vp_in v3 6 ∧
   ∀ M3 : Mem, M3 = wr M 46 v3.toNatClampNeg 0 →
   ∀ x3_4 : Int32, x3_4 = v3 + 1 →
   P2 M3 x3_4))
def wp_X12_layFar (Post : Mem → Prop) (M : Mem) (v1 : Int32) (v2 : Int32) : Prop :=
 ∀ (P2 : Mem → Int32 → Prop) (P33 : Mem → Int32 → Prop) (P44 : Mem → Int32 → Int32 → Prop) (P56 : Mem → Int32 → Int32 → Int32 → Prop) ,
  (∀ (M : Mem) (v3 : Int32), wp_X12_layFar_b2 Post v1 v2 P2 P33 P44 P56 M v3 → P2 M v3) →
  (∀ (M : Mem) (v3 : Int32), wp_X12_layFar_b33 Post v1 v2 P2 P33 P44 P56 M v3 → P33 M v3) →
  (∀ (M : Mem) (v3 : Int32) (v4 : Int32), wp_X12_layFar_b44 Post v1 v2 P2 P33 P44 P56 M v3 v4 → P44 M v3 v4) →
  (∀ (M : Mem) (v3 : Int32) (v4 : Int32) (v5 : Int32), wp_X12_layFar_b56 Post v1 v2 P2 P33 P44 P56 M v3 v4 v5 → P56 M v3 v4 v5) →
 P2 M 0
theorem k_X12_layFar_b119 {E : Ek} {x : MC} (X : Cx E x cX12_layFar 7 RX12 3) {Post : Mem → Prop} (hQ : QV E x Post none) {v1 : Int32} {v2 : Int32} {M : Mem} {v3 : Int32} {v4 : Int32} {v5 : Int32} {s1 : Int32} (h : wp_X12_layFar_b119 Post v1 v2 (fun M v3 => G E x M 2 [(0, .ref (ad E 29)), (1, .int v1), (2, .int v2), (3, .int v3)] []) (fun M v3 => G E x M 33 [(0, .ref (ad E 29)), (1, .int v1), (3, .int v3)] []) (fun M v3 v4 => G E x M 44 [(0, .ref (ad E 29)), (1, .int v1), (3, .int v3), (4, .int v4)] []) (fun M v3 v4 v5 => G E x M 56 [(0, .ref (ad E 29)), (1, .int v1), (3, .int v3), (4, .int v4), (5, .int v5)] []) M v3 v4 v5 s1) : G E x M 119 [(0, .ref (ad E 29)), (1, .int v1), (3, .int v3), (4, .int v4), (5, .int v5)] [.int s1, .ref (ad E 46)] := by
  refine g_aload_n X dX12_layFar_119 rfl 0 rfl ?_
  refine fg_X12_58 X dX12_layFar_120 ?_
  refine g_iload X dX12_layFar_123 3 rfl ?_
  refine g_iald X ia_46 dX12_layFar_125 h (fun h => ?_)
  refine g_iast X ia_46 dX12_layFar_126 h (fun M11 h => ?_)
  refine g_iinc (w := 1) X dX12_layFar_127 4 rfl (by decide) (Nat.le_of_ble_eq_true rfl) rfl (fun x5_12 => [(0, .ref (ad E 29)), (1, .int v1), (3, .int v3), (4, .int v4), (5, .int x5_12)]) (fun _ => rfl) h (fun x5_12 h => ?_)
  refine g_goto (tgt := 56) X dX12_layFar_130 (by decide) ?_
  exact h
theorem k_X12_layFar_b56 {E : Ek} {x : MC} (X : Cx E x cX12_layFar 7 RX12 3) {Post : Mem → Prop} (hQ : QV E x Post none) {v1 : Int32} {v2 : Int32} {M : Mem} {v3 : Int32} {v4 : Int32} {v5 : Int32} (h : wp_X12_layFar_b56 Post v1 v2 (fun M v3 => G E x M 2 [(0, .ref (ad E 29)), (1, .int v1), (2, .int v2), (3, .int v3)] []) (fun M v3 => G E x M 33 [(0, .ref (ad E 29)), (1, .int v1), (3, .int v3)] []) (fun M v3 v4 => G E x M 44 [(0, .ref (ad E 29)), (1, .int v1), (3, .int v3), (4, .int v4)] []) (fun M v3 v4 v5 => G E x M 56 [(0, .ref (ad E 29)), (1, .int v1), (3, .int v3), (4, .int v4), (5, .int v5)] []) M v3 v4 v5) : G E x M 56 [(0, .ref (ad E 29)), (1, .int v1), (3, .int v3), (4, .int v4), (5, .int v5)] [] := by
  refine g_iload X dX12_layFar_56 4 rfl ?_
  refine g_aload_n X dX12_layFar_58 rfl 0 rfl ?_
  refine fg_X12_156 X dX12_layFar_59 ?_
  refine g_icmpge (tgt := 133) X dX12_layFar_62 (by decide) h (fun h => ?_) (fun h => ?_)
  · refine g_iinc (w := 1) X dX12_layFar_133 3 rfl (by decide) (Nat.le_of_ble_eq_true rfl) rfl (fun x4_6 => [(0, .ref (ad E 29)), (1, .int v1), (3, .int v3), (4, .int x4_6), (5, .int v5)]) (fun _ => rfl) h (fun x4_6 h => ?_)
    refine g_goto (tgt := 44) X dX12_layFar_136 (by decide) ?_
    exact g_sub [0, 1, 2, 3] rfl h
  · refine g_aload_n X dX12_layFar_65 rfl 0 rfl ?_
    refine g_iload_n X dX12_layFar_66 rfl 1 rfl ?_
    refine g_iload X dX12_layFar_67 4 rfl ?_
    refine g_iload X dX12_layFar_69 3 rfl ?_
    refine cl_X12_187 X (by decide) (Nat.le_of_ble_eq_true rfl) dX12_layFar_71 h (fun r7 M8 h => ?_)
    refine g_istore (lv' := [(0, .ref (ad E 29)), (1, .int v1), (3, .int v3), (4, .int v4), (5, .int v5), (6, .int r7)]) X dX12_layFar_74 (Nat.le_of_ble_eq_true rfl) rfl rfl ?_
    refine g_aload_n X dX12_layFar_76 rfl 0 rfl ?_
    refine fg_X12_58 X dX12_layFar_77 ?_
    refine g_iload X dX12_layFar_80 3 rfl ?_
    refine g_iload X dX12_layFar_82 5 rfl ?_
    refine g_iconst (v := (-1)) X dX12_layFar_84 (by decide) ?_
    refine g_icmpeq (tgt := 119) X dX12_layFar_85 (by decide) h (fun h => ?_) (fun h => ?_)
    · exact g_sub [0, 1, 2, 3, 4] rfl (k_X12_layFar_b119 X hQ  h)
    · refine g_aload_n X dX12_layFar_88 rfl 0 rfl ?_
      refine fg_X12_58 X dX12_layFar_89 ?_
      refine g_iload X dX12_layFar_92 5 rfl ?_
      refine g_iald X ia_46 dX12_layFar_94 h (fun h => ?_)
      refine g_iconst (v := 1) X dX12_layFar_95 (by decide) ?_
      refine g_iadd X dX12_layFar_96 ?_
      refine g_aload_n X dX12_layFar_97 rfl 0 rfl ?_
      refine fg_X12_58 X dX12_layFar_98 ?_
      refine g_iload X dX12_layFar_101 3 rfl ?_
      refine g_iald X ia_46 dX12_layFar_103 h (fun h => ?_)
      refine g_icmpge (tgt := 119) X dX12_layFar_104 (by decide) h (fun h => ?_) (fun h => ?_)
      · exact g_sub [0, 1, 2, 3, 4] rfl (k_X12_layFar_b119 X hQ  h)
      · refine g_aload_n X dX12_layFar_107 rfl 0 rfl ?_
        refine fg_X12_58 X dX12_layFar_108 ?_
        refine g_iload X dX12_layFar_111 5 rfl ?_
        refine g_iald X ia_46 dX12_layFar_113 h (fun h => ?_)
        refine g_iconst (v := 1) X dX12_layFar_114 (by decide) ?_
        refine g_iadd X dX12_layFar_115 ?_
        refine g_goto (tgt := 126) X dX12_layFar_116 (by decide) ?_
        refine g_iast X ia_46 dX12_layFar_126 h (fun M9 h => ?_)
        refine g_iinc (w := 1) X dX12_layFar_127 4 rfl (by decide) (Nat.le_of_ble_eq_true rfl) rfl (fun x5_10 => [(0, .ref (ad E 29)), (1, .int v1), (3, .int v3), (4, .int v4), (5, .int x5_10), (6, .int r7)]) (fun _ => rfl) h (fun x5_10 h => ?_)
        refine g_goto (tgt := 56) X dX12_layFar_130 (by decide) ?_
        exact g_sub [0, 1, 2, 3, 4] rfl h
theorem k_X12_layFar_b44 {E : Ek} {x : MC} (X : Cx E x cX12_layFar 7 RX12 3) {Post : Mem → Prop} (hQ : QV E x Post none) {v1 : Int32} {v2 : Int32} {M : Mem} {v3 : Int32} {v4 : Int32} (h : wp_X12_layFar_b44 Post v1 v2 (fun M v3 => G E x M 2 [(0, .ref (ad E 29)), (1, .int v1), (2, .int v2), (3, .int v3)] []) (fun M v3 => G E x M 33 [(0, .ref (ad E 29)), (1, .int v1), (3, .int v3)] []) (fun M v3 v4 => G E x M 44 [(0, .ref (ad E 29)), (1, .int v1), (3, .int v3), (4, .int v4)] []) (fun M v3 v4 v5 => G E x M 56 [(0, .ref (ad E 29)), (1, .int v1), (3, .int v3), (4, .int v4), (5, .int v5)] []) M v3 v4) : G E x M 44 [(0, .ref (ad E 29)), (1, .int v1), (3, .int v3), (4, .int v4)] [] := by
  refine g_iload X dX12_layFar_44 3 rfl ?_
  refine g_aload_n X dX12_layFar_46 rfl 0 rfl ?_
  refine fg_X12_153 X dX12_layFar_47 ?_
  refine g_icmpge (tgt := 139) X dX12_layFar_50 (by decide) h (fun h => ?_) (fun h => ?_)
  · refine g_iinc (w := 1) X dX12_layFar_139 2 rfl (by decide) (Nat.le_of_ble_eq_true rfl) rfl (fun x3_5 => [(0, .ref (ad E 29)), (1, .int v1), (3, .int x3_5), (4, .int v4)]) (fun _ => rfl) h (fun x3_5 h => ?_)
    refine g_goto (tgt := 33) X dX12_layFar_142 (by decide) ?_
    exact g_sub [0, 1, 2] rfl h
  · refine g_iconst (v := 0) X dX12_layFar_53 (by decide) ?_
    refine g_istore (lv' := [(0, .ref (ad E 29)), (1, .int v1), (3, .int v3), (4, .int v4), (5, .int 0)]) X dX12_layFar_54 (Nat.le_of_ble_eq_true rfl) rfl rfl ?_
    exact h
theorem k_X12_layFar_b33 {E : Ek} {x : MC} (X : Cx E x cX12_layFar 7 RX12 3) {Post : Mem → Prop} (hQ : QV E x Post none) {v1 : Int32} {v2 : Int32} {M : Mem} {v3 : Int32} (h : wp_X12_layFar_b33 Post v1 v2 (fun M v3 => G E x M 2 [(0, .ref (ad E 29)), (1, .int v1), (2, .int v2), (3, .int v3)] []) (fun M v3 => G E x M 33 [(0, .ref (ad E 29)), (1, .int v1), (3, .int v3)] []) (fun M v3 v4 => G E x M 44 [(0, .ref (ad E 29)), (1, .int v1), (3, .int v3), (4, .int v4)] []) (fun M v3 v4 v5 => G E x M 56 [(0, .ref (ad E 29)), (1, .int v1), (3, .int v3), (4, .int v4), (5, .int v5)] []) M v3) : G E x M 33 [(0, .ref (ad E 29)), (1, .int v1), (3, .int v3)] [] := by
  refine g_iload_n X dX12_layFar_33 rfl 2 rfl ?_
  refine g_aload_n X dX12_layFar_34 rfl 0 rfl ?_
  refine fg_X12_153 X dX12_layFar_35 ?_
  refine g_icmpge (tgt := 145) X dX12_layFar_38 (by decide) h (fun h => ?_) (fun h => ?_)
  · exact g_vret X hQ dX12_layFar_145 h
  · refine g_iconst (v := 0) X dX12_layFar_41 (by decide) ?_
    refine g_istore (lv' := [(0, .ref (ad E 29)), (1, .int v1), (3, .int v3), (4, .int 0)]) X dX12_layFar_42 (Nat.le_of_ble_eq_true rfl) rfl rfl ?_
    exact h
theorem k_X12_layFar_b2 {E : Ek} {x : MC} (X : Cx E x cX12_layFar 7 RX12 3) {Post : Mem → Prop} (hQ : QV E x Post none) {v1 : Int32} {v2 : Int32} {M : Mem} {v3 : Int32} (h : wp_X12_layFar_b2 Post v1 v2 (fun M v3 => G E x M 2 [(0, .ref (ad E 29)), (1, .int v1), (2, .int v2), (3, .int v3)] []) (fun M v3 => G E x M 33 [(0, .ref (ad E 29)), (1, .int v1), (3, .int v3)] []) (fun M v3 v4 => G E x M 44 [(0, .ref (ad E 29)), (1, .int v1), (3, .int v3), (4, .int v4)] []) (fun M v3 v4 v5 => G E x M 56 [(0, .ref (ad E 29)), (1, .int v1), (3, .int v3), (4, .int v4), (5, .int v5)] []) M v3) : G E x M 2 [(0, .ref (ad E 29)), (1, .int v1), (2, .int v2), (3, .int v3)] [] := by
  refine g_iload_n X dX12_layFar_2 rfl 3 rfl ?_
  refine g_bipush (v := 6) X dX12_layFar_3 (by decide) ?_
  refine g_icmpge (tgt := 31) X dX12_layFar_5 (by decide) h (fun h => ?_) (fun h => ?_)
  · refine g_iconst (v := 0) X dX12_layFar_31 (by decide) ?_
    refine g_istore_n (lv' := [(0, .ref (ad E 29)), (1, .int v1), (2, .int v2), (3, .int 0)]) X dX12_layFar_32 rfl (Nat.le_of_ble_eq_true rfl) rfl rfl ?_
    exact g_sub [0, 1, 3] rfl h
  · refine g_aload_n X dX12_layFar_8 rfl 0 rfl ?_
    refine fg_X12_58 X dX12_layFar_9 ?_
    refine g_iload_n X dX12_layFar_12 rfl 3 rfl ?_
    refine g_iload_n X dX12_layFar_13 rfl 3 rfl ?_
    refine g_iload_n X dX12_layFar_14 rfl 2 rfl ?_
    refine g_icmpne (tgt := 22) X dX12_layFar_15 (by decide) h (fun h => ?_) (fun h => ?_)
    · refine g_bipush (v := 99) X dX12_layFar_22 (by decide) ?_
      refine g_iast X ia_46 dX12_layFar_24 h (fun M1 h => ?_)
      refine g_iinc (w := 1) X dX12_layFar_25 3 rfl (by decide) (Nat.le_of_ble_eq_true rfl) rfl (fun x3_2 => [(0, .ref (ad E 29)), (1, .int v1), (2, .int v2), (3, .int x3_2)]) (fun _ => rfl) h (fun x3_2 h => ?_)
      refine g_goto (tgt := 2) X dX12_layFar_28 (by decide) ?_
      exact h
    · refine g_iconst (v := 0) X dX12_layFar_18 (by decide) ?_
      refine g_goto (tgt := 24) X dX12_layFar_19 (by decide) ?_
      refine g_iast X ia_46 dX12_layFar_24 h (fun M3 h => ?_)
      refine g_iinc (w := 1) X dX12_layFar_25 3 rfl (by decide) (Nat.le_of_ble_eq_true rfl) rfl (fun x3_4 => [(0, .ref (ad E 29)), (1, .int v1), (2, .int v2), (3, .int x3_4)]) (fun _ => rfl) h (fun x3_4 h => ?_)
      refine g_goto (tgt := 2) X dX12_layFar_28 (by decide) ?_
      exact h
theorem w_X12_layFar (E : Ek) (l : Launch) {v1 : Int32} {v2 : Int32} {M : Mem} {Post : Mem → Prop} (h : wp_X12_layFar Post M v1 v2) : ctV E l yX12_layFar cX12_layFar 7 none 3 [.ref (ad E 29), .int v1, .int v2] M Post := by
  refine ct_of (by decide) (Nat.le_of_ble_eq_true rfl) (fun x X hQ => ?_)
  have h := h (fun M v3 => G E x M 2 [(0, .ref (ad E 29)), (1, .int v1), (2, .int v2), (3, .int v3)] []) (fun M v3 => G E x M 33 [(0, .ref (ad E 29)), (1, .int v1), (3, .int v3)] []) (fun M v3 v4 => G E x M 44 [(0, .ref (ad E 29)), (1, .int v1), (3, .int v3), (4, .int v4)] []) (fun M v3 v4 v5 => G E x M 56 [(0, .ref (ad E 29)), (1, .int v1), (3, .int v3), (4, .int v4), (5, .int v5)] []) (fun M v3 h => k_X12_layFar_b2 X hQ  h) (fun M v3 h => k_X12_layFar_b33 X hQ  h) (fun M v3 v4 h => k_X12_layFar_b44 X hQ  h) (fun M v3 v4 v5 h => k_X12_layFar_b56 X hQ  h)
  change G E x M 0 [(0, .ref (ad E 29)), (1, .int v1), (2, .int v2)] []
  refine g_iconst (v := 0) X dX12_layFar_0 (by decide) ?_
  refine g_istore_n (lv' := [(0, .ref (ad E 29)), (1, .int v1), (2, .int v2), (3, .int 0)]) X dX12_layFar_1 rfl (Nat.le_of_ble_eq_true rfl) rfl rfl ?_
  exact h
theorem cl_X12_242 {E : Ek} {x : MC} {cc : ByteArray} {nL hm pc : Nat} {M : Mem} {lv : List (Nat × Value)} {st : List Value} (X : Cx E x cc nL RX12 hm) {v1 : Int32} {v2 : Int32} {Post : Mem → Prop} (hr : 3 < hm) (hW : (st.map fun v => v.category).sum ≤ 8) (hd : decode cc pc = .ok (.invokevirtual 242, 3)) (h : wp_X12_layFar Post M v1 v2) (kk : ∀ M1, Post M1 → G E x M1 (pc + 3) lv st) : G E x M pc lv (.int v2 :: .int v1 :: .ref (ad E 29) :: st) := k_V (fun hP hS hL => run_V X (w_X12_layFar E (xl x)  h) cw_X12_layFar m663 m664 m665 (⟨by decide, fun E f h => ⟨_, _, _, rfl, rfl, rfl⟩⟩ : OC 29 RX12) hr rfl hd hW hP hS hL) kk
theorem cw_X12_wayOf : CW yX12_wayOf cX12_wayOf 10 (some .int) 3 := ⟨m666, m499, Nat.le_of_ble_eq_true rfl, by decide +kernel⟩
def wp_X12_wayOf_b68 (Post : Int32 → Mem → Prop) (v1 : Int32) (v2 : Int32) (v3 : Int32) (P47 : Mem → Int32 → Int32 → Int32 → Prop) (P68 : Mem → Int32 → Int32 → Int32 → Int32 → Int32 → Prop) (M : Mem) (v4 : Int32) (v5 : Int32) (v6 : Int32) (v7 : Int32) (v8 : Int32) : Prop :=
 (v8 < 0 →
  ∀ x6_5 : Int32, x6_5 = v6 + 1 →
  P47 M v7 v5 x6_5) ∧
 (¬ v8 < 0 →
  wp_X12_through (fun r6 M7 =>
   (r6 = (-1) →
    ∀ x8_8 : Int32, x8_8 = v8 + (-1) →
    P68 M7 v4 v5 v6 v7 x8_8) ∧
   (¬ r6 = (-1) →
    vp_in r6 6 ∧
    vp_in v4 6 ∧
    (¬ (rd M7 46 r6.toNatClampNeg) = ((rd M7 46 v4.toNatClampNeg) - 1) →
     ∀ x8_9 : Int32, x8_9 = v8 + (-1) →
     P68 M7 v4 v5 v6 v7 x8_9) ∧
    ((rd M7 46 r6.toNatClampNeg) = ((rd M7 46 v4.toNatClampNeg) - 1) →
     ∀ x8_10 : Int32, x8_10 = v8 + (-1) →
     P68 M7 v4 v8 v6 r6 x8_10))) M v1 v8 v4)
def wp_X12_wayOf_b47 (Post : Int32 → Mem → Prop) (v1 : Int32) (v2 : Int32) (v3 : Int32) (P47 : Mem → Int32 → Int32 → Int32 → Prop) (P68 : Mem → Int32 → Int32 → Int32 → Int32 → Int32 → Prop) (M : Mem) (v4 : Int32) (v5 : Int32) (v6 : Int32) : Prop :=
 (v3 < v6 →
  Post v5 M) ∧
 (¬ v3 < v6 →
  ∀ x8_4 : Int32, x8_4 = (rd M 29 5) - 1 →
  P68 M v4 (-1) v6 v4 x8_4)
def wp_X12_wayOf (Post : Int32 → Mem → Prop) (M : Mem) (v1 : Int32) (v2 : Int32) (v3 : Int32) : Prop :=
 ∀ (P47 : Mem → Int32 → Int32 → Int32 → Prop) (P68 : Mem → Int32 → Int32 → Int32 → Int32 → Int32 → Prop) ,
  (∀ (M : Mem) (v4 : Int32) (v5 : Int32) (v6 : Int32), wp_X12_wayOf_b47 Post v1 v2 v3 P47 P68 M v4 v5 v6 → P47 M v4 v5 v6) →
  (∀ (M : Mem) (v4 : Int32) (v5 : Int32) (v6 : Int32) (v7 : Int32) (v8 : Int32), wp_X12_wayOf_b68 Post v1 v2 v3 P47 P68 M v4 v5 v6 v7 v8 → P68 M v4 v5 v6 v7 v8) →
 wp_X12_layFar (fun M2 =>
  vp_in v1 4 ∧
  ∀ x4_3 : Int32, x4_3 = rd M2 36 v1.toNatClampNeg →
  vp_in x4_3 6 ∧
  (¬ (rd M2 46 x4_3.toNatClampNeg) = 99 →
   (¬ v3 = 0 →
    P47 M2 x4_3 (-1) 10) ∧
   (v3 = 0 →
    vp_in x4_3 6 ∧
    Post (rd M2 46 x4_3.toNatClampNeg) M2)) ∧
  ((rd M2 46 x4_3.toNatClampNeg) = 99 →
   Post (-1) M2)) M v1 v2
theorem k_X12_wayOf_b68 {E : Ek} {x : MC} (X : Cx E x cX12_wayOf 10 RX12 4) {Post : Int32 → Mem → Prop} (hQ : QI E x Post (some .int)) {v1 : Int32} {v2 : Int32} {v3 : Int32} {M : Mem} {v4 : Int32} {v5 : Int32} {v6 : Int32} {v7 : Int32} {v8 : Int32} (h : wp_X12_wayOf_b68 Post v1 v2 v3 (fun M v4 v5 v6 => G E x M 47 [(0, .ref (ad E 29)), (1, .int v1), (3, .int v3), (4, .int v4), (5, .int v5), (6, .int v6)] []) (fun M v4 v5 v6 v7 v8 => G E x M 68 [(0, .ref (ad E 29)), (1, .int v1), (3, .int v3), (4, .int v4), (5, .int v5), (6, .int v6), (7, .int v7), (8, .int v8)] []) M v4 v5 v6 v7 v8) : G E x M 68 [(0, .ref (ad E 29)), (1, .int v1), (3, .int v3), (4, .int v4), (5, .int v5), (6, .int v6), (7, .int v7), (8, .int v8)] [] := by
  refine g_iload X dX12_wayOf_68 7 rfl ?_
  refine g_iflt (tgt := 123) X dX12_wayOf_70 (by decide) h (fun h => ?_) (fun h => ?_)
  · refine g_iload X dX12_wayOf_123 6 rfl ?_
    refine g_istore (lv' := [(0, .ref (ad E 29)), (1, .int v1), (3, .int v3), (4, .int v7), (5, .int v5), (6, .int v6), (7, .int v7), (8, .int v8)]) X dX12_wayOf_125 (Nat.le_of_ble_eq_true rfl) rfl rfl ?_
    refine g_iinc (w := 1) X dX12_wayOf_127 5 rfl (by decide) (Nat.le_of_ble_eq_true rfl) rfl (fun x6_5 => [(0, .ref (ad E 29)), (1, .int v1), (3, .int v3), (4, .int v7), (5, .int v5), (6, .int x6_5), (7, .int v7), (8, .int v8)]) (fun _ => rfl) h (fun x6_5 h => ?_)
    refine g_goto (tgt := 47) X dX12_wayOf_130 (by decide) ?_
    exact g_sub [0, 1, 2, 3, 4, 5] rfl h
  · refine g_aload_n X dX12_wayOf_73 rfl 0 rfl ?_
    refine g_iload_n X dX12_wayOf_74 rfl 1 rfl ?_
    refine g_iload X dX12_wayOf_75 7 rfl ?_
    refine g_iload X dX12_wayOf_77 3 rfl ?_
    refine cl_X12_187 X (by decide) (Nat.le_of_ble_eq_true rfl) dX12_wayOf_79 h (fun r6 M7 h => ?_)
    refine g_istore (lv' := [(0, .ref (ad E 29)), (1, .int v1), (3, .int v3), (4, .int v4), (5, .int v5), (6, .int v6), (7, .int v7), (8, .int v8), (9, .int r6)]) X dX12_wayOf_82 (Nat.le_of_ble_eq_true rfl) rfl rfl ?_
    refine g_iload X dX12_wayOf_84 8 rfl ?_
    refine g_iconst (v := (-1)) X dX12_wayOf_86 (by decide) ?_
    refine g_icmpeq (tgt := 117) X dX12_wayOf_87 (by decide) h (fun h => ?_) (fun h => ?_)
    · refine g_iinc (w := (-1)) X dX12_wayOf_117 7 rfl (by decide) (Nat.le_of_ble_eq_true rfl) rfl (fun x8_8 => [(0, .ref (ad E 29)), (1, .int v1), (3, .int v3), (4, .int v4), (5, .int v5), (6, .int v6), (7, .int v7), (8, .int x8_8), (9, .int r6)]) (fun _ => rfl) h (fun x8_8 h => ?_)
      refine g_goto (tgt := 68) X dX12_wayOf_120 (by decide) ?_
      exact g_sub [0, 1, 2, 3, 4, 5, 6, 7] rfl h
    · refine g_aload_n X dX12_wayOf_90 rfl 0 rfl ?_
      refine fg_X12_58 X dX12_wayOf_91 ?_
      refine g_iload X dX12_wayOf_94 8 rfl ?_
      refine g_iald X ia_46 dX12_wayOf_96 h (fun h => ?_)
      refine g_aload_n X dX12_wayOf_97 rfl 0 rfl ?_
      refine fg_X12_58 X dX12_wayOf_98 ?_
      refine g_iload X dX12_wayOf_101 3 rfl ?_
      refine g_iald X ia_46 dX12_wayOf_103 h (fun h => ?_)
      refine g_iconst (v := 1) X dX12_wayOf_104 (by decide) ?_
      refine g_isub X dX12_wayOf_105 ?_
      refine g_icmpne (tgt := 117) X dX12_wayOf_106 (by decide) h (fun h => ?_) (fun h => ?_)
      · refine g_iinc (w := (-1)) X dX12_wayOf_117 7 rfl (by decide) (Nat.le_of_ble_eq_true rfl) rfl (fun x8_9 => [(0, .ref (ad E 29)), (1, .int v1), (3, .int v3), (4, .int v4), (5, .int v5), (6, .int v6), (7, .int v7), (8, .int x8_9), (9, .int r6)]) (fun _ => rfl) h (fun x8_9 h => ?_)
        refine g_goto (tgt := 68) X dX12_wayOf_120 (by decide) ?_
        exact g_sub [0, 1, 2, 3, 4, 5, 6, 7] rfl h
      · refine g_iload X dX12_wayOf_109 7 rfl ?_
        refine g_istore (lv' := [(0, .ref (ad E 29)), (1, .int v1), (3, .int v3), (4, .int v4), (5, .int v8), (6, .int v6), (7, .int v7), (8, .int v8), (9, .int r6)]) X dX12_wayOf_111 (Nat.le_of_ble_eq_true rfl) rfl rfl ?_
        refine g_iload X dX12_wayOf_113 8 rfl ?_
        refine g_istore (lv' := [(0, .ref (ad E 29)), (1, .int v1), (3, .int v3), (4, .int v4), (5, .int v8), (6, .int v6), (7, .int r6), (8, .int v8), (9, .int r6)]) X dX12_wayOf_115 (Nat.le_of_ble_eq_true rfl) rfl rfl ?_
        refine g_iinc (w := (-1)) X dX12_wayOf_117 7 rfl (by decide) (Nat.le_of_ble_eq_true rfl) rfl (fun x8_10 => [(0, .ref (ad E 29)), (1, .int v1), (3, .int v3), (4, .int v4), (5, .int v8), (6, .int v6), (7, .int r6), (8, .int x8_10), (9, .int r6)]) (fun _ => rfl) h (fun x8_10 h => ?_)
        refine g_goto (tgt := 68) X dX12_wayOf_120 (by decide) ?_
        exact g_sub [0, 1, 2, 3, 4, 5, 6, 7] rfl h
theorem k_X12_wayOf_b47 {E : Ek} {x : MC} (X : Cx E x cX12_wayOf 10 RX12 4) {Post : Int32 → Mem → Prop} (hQ : QI E x Post (some .int)) {v1 : Int32} {v2 : Int32} {v3 : Int32} {M : Mem} {v4 : Int32} {v5 : Int32} {v6 : Int32} (h : wp_X12_wayOf_b47 Post v1 v2 v3 (fun M v4 v5 v6 => G E x M 47 [(0, .ref (ad E 29)), (1, .int v1), (3, .int v3), (4, .int v4), (5, .int v5), (6, .int v6)] []) (fun M v4 v5 v6 v7 v8 => G E x M 68 [(0, .ref (ad E 29)), (1, .int v1), (3, .int v3), (4, .int v4), (5, .int v5), (6, .int v6), (7, .int v7), (8, .int v8)] []) M v4 v5 v6) : G E x M 47 [(0, .ref (ad E 29)), (1, .int v1), (3, .int v3), (4, .int v4), (5, .int v5), (6, .int v6)] [] := by
  refine g_iload X dX12_wayOf_47 5 rfl ?_
  refine g_iload_n X dX12_wayOf_49 rfl 2 rfl ?_
  refine g_icmpgt (tgt := 133) X dX12_wayOf_50 (by decide) h (fun h => ?_) (fun h => ?_)
  · refine g_iload X dX12_wayOf_133 4 rfl ?_
    exact g_iret X hQ dX12_wayOf_135 h
  · refine g_iconst (v := (-1)) X dX12_wayOf_53 (by decide) ?_
    refine g_istore (lv' := [(0, .ref (ad E 29)), (1, .int v1), (3, .int v3), (4, .int v4), (5, .int (-1)), (6, .int v6)]) X dX12_wayOf_54 (Nat.le_of_ble_eq_true rfl) rfl rfl ?_
    refine g_iload X dX12_wayOf_56 3 rfl ?_
    refine g_istore (lv' := [(0, .ref (ad E 29)), (1, .int v1), (3, .int v3), (4, .int v4), (5, .int (-1)), (6, .int v6), (7, .int v4)]) X dX12_wayOf_58 (Nat.le_of_ble_eq_true rfl) rfl rfl ?_
    refine g_aload_n X dX12_wayOf_60 rfl 0 rfl ?_
    refine fg_X12_156 X dX12_wayOf_61 ?_
    refine g_iconst (v := 1) X dX12_wayOf_64 (by decide) ?_
    refine g_isub X dX12_wayOf_65 ?_
    refine g_nm h (fun x8_4 h => ?_)
    refine g_istore (lv' := [(0, .ref (ad E 29)), (1, .int v1), (3, .int v3), (4, .int v4), (5, .int (-1)), (6, .int v6), (7, .int v4), (8, .int x8_4)]) X dX12_wayOf_66 (Nat.le_of_ble_eq_true rfl) rfl rfl ?_
    exact h
theorem w_X12_wayOf (E : Ek) (l : Launch) {v1 : Int32} {v2 : Int32} {v3 : Int32} {M : Mem} {Post : Int32 → Mem → Prop} (h : wp_X12_wayOf Post M v1 v2 v3) : ctI E l yX12_wayOf cX12_wayOf 10 (some .int) 4 [.ref (ad E 29), .int v1, .int v2, .int v3] M Post := by
  refine ct_of (by decide) (Nat.le_of_ble_eq_true rfl) (fun x X hQ => ?_)
  have h := h (fun M v4 v5 v6 => G E x M 47 [(0, .ref (ad E 29)), (1, .int v1), (3, .int v3), (4, .int v4), (5, .int v5), (6, .int v6)] []) (fun M v4 v5 v6 v7 v8 => G E x M 68 [(0, .ref (ad E 29)), (1, .int v1), (3, .int v3), (4, .int v4), (5, .int v5), (6, .int v6), (7, .int v7), (8, .int v8)] []) (fun M v4 v5 v6 h => k_X12_wayOf_b47 X hQ  h) (fun M v4 v5 v6 v7 v8 h => k_X12_wayOf_b68 X hQ  h)
  change G E x M 0 [(0, .ref (ad E 29)), (1, .int v1), (2, .int v2), (3, .int v3)] []
  refine g_aload_n X dX12_wayOf_0 rfl 0 rfl ?_
  refine g_iload_n X dX12_wayOf_1 rfl 1 rfl ?_
  refine g_iload_n X dX12_wayOf_2 rfl 2 rfl ?_
  refine cl_X12_242 X (by decide) (Nat.le_of_ble_eq_true rfl) dX12_wayOf_3 h (fun M2 h => ?_)
  refine g_aload_n X dX12_wayOf_6 rfl 0 rfl ?_
  refine fg_X12_28 X dX12_wayOf_7 ?_
  refine g_iload_n X dX12_wayOf_10 rfl 1 rfl ?_
  refine g_iald X ia_36 dX12_wayOf_11 h (fun h => ?_)
  refine g_nm h (fun x4_3 h => ?_)
  refine g_istore (lv' := [(0, .ref (ad E 29)), (1, .int v1), (2, .int v2), (3, .int v3), (4, .int x4_3)]) X dX12_wayOf_12 (Nat.le_of_ble_eq_true rfl) rfl rfl ?_
  refine g_aload_n X dX12_wayOf_14 rfl 0 rfl ?_
  refine fg_X12_58 X dX12_wayOf_15 ?_
  refine g_iload X dX12_wayOf_18 4 rfl ?_
  refine g_iald X ia_46 dX12_wayOf_20 h (fun h => ?_)
  refine g_bipush (v := 99) X dX12_wayOf_21 (by decide) ?_
  refine g_icmpne (tgt := 28) X dX12_wayOf_23 (by decide) h (fun h => ?_) (fun h => ?_)
  · refine g_iload_n X dX12_wayOf_28 rfl 3 rfl ?_
    refine g_ifne (tgt := 40) X dX12_wayOf_29 (by decide) h (fun h => ?_) (fun h => ?_)
    · refine g_iconst (v := (-1)) X dX12_wayOf_40 (by decide) ?_
      refine g_istore (lv' := [(0, .ref (ad E 29)), (1, .int v1), (2, .int v2), (3, .int v3), (4, .int x4_3), (5, .int (-1))]) X dX12_wayOf_41 (Nat.le_of_ble_eq_true rfl) rfl rfl ?_
      refine g_bipush (v := 10) X dX12_wayOf_43 (by decide) ?_
      refine g_istore (lv' := [(0, .ref (ad E 29)), (1, .int v1), (2, .int v2), (3, .int v3), (4, .int x4_3), (5, .int (-1)), (6, .int 10)]) X dX12_wayOf_45 (Nat.le_of_ble_eq_true rfl) rfl rfl ?_
      exact g_sub [0, 1, 3, 4, 5, 6] rfl h
    · refine g_aload_n X dX12_wayOf_32 rfl 0 rfl ?_
      refine fg_X12_58 X dX12_wayOf_33 ?_
      refine g_iload X dX12_wayOf_36 4 rfl ?_
      refine g_iald X ia_46 dX12_wayOf_38 h (fun h => ?_)
      exact g_iret X hQ dX12_wayOf_39 h
  · refine g_iconst (v := (-1)) X dX12_wayOf_26 (by decide) ?_
    exact g_iret X hQ dX12_wayOf_27 h
theorem cl_X12_253 {E : Ek} {x : MC} {cc : ByteArray} {nL hm pc : Nat} {M : Mem} {lv : List (Nat × Value)} {st : List Value} (X : Cx E x cc nL RX12 hm) {v1 : Int32} {v2 : Int32} {v3 : Int32} {Post : Int32 → Mem → Prop} (hr : 4 < hm) (hW : (st.map fun v => v.category).sum ≤ 8) (hd : decode cc pc = .ok (.invokevirtual 253, 3)) (h : wp_X12_wayOf Post M v1 v2 v3) (kk : ∀ r M1, Post r M1 → G E x M1 (pc + 3) lv (.int r :: st)) : G E x M pc lv (.int v3 :: .int v2 :: .int v1 :: .ref (ad E 29) :: st) := k_I (fun hP hS hL => run_V X (w_X12_wayOf E (xl x)  h) cw_X12_wayOf m672 m673 m674 (⟨by decide, fun E f h => ⟨_, _, _, rfl, rfl, rfl⟩⟩ : OC 29 RX12) hr rfl hd hW hP hS hL) kk
theorem cw_X12_way : CW yX12_way cX12_way 4 (some .int) 3 := ⟨m675, m499, Nat.le_of_ble_eq_true rfl, by decide +kernel⟩
def wp_X12_way_b37 (Post : Int32 → Mem → Prop) (v1 : Int32) (v2 : Int32) (v3 : Int32) (M : Mem) : Prop :=
 wp_X12_wayOf (fun r7 M8 =>
  Post r7 M8) M v1 v2 v3
def wp_X12_way (Post : Int32 → Mem → Prop) (M : Mem) (v1 : Int32) (v2 : Int32) (v3 : Int32) : Prop :=
 wp_X12_isPerson (fun r1 M2 =>
  (r1 = 0 →
   Post (-101) M2) ∧
  (¬ r1 = 0 →
   wp_X12_isRoom (fun r3 M4 =>
    (¬ r3 = 0 →
     (v3 = 0 →
      wp_X12_way_b37 Post v1 v2 v3 M4) ∧
     (¬ v3 = 0 →
      wp_X12_in (fun r5 M6 =>
       (r5 = 0 →
        Post (-102) M6) ∧
       (¬ r5 = 0 →
        wp_X12_way_b37 Post v1 v2 v3 M6)) M4 (v3.toInt64) (10 : Int64) (14 : Int64))) ∧
    (r3 = 0 →
     Post (-101) M4)) M2 v2)) M v1
theorem k_X12_way_b37 {E : Ek} {x : MC} (X : Cx E x cX12_way 4 RX12 5) {Post : Int32 → Mem → Prop} (hQ : QI E x Post (some .int)) {v1 : Int32} {v2 : Int32} {v3 : Int32} {M : Mem} (h : wp_X12_way_b37 Post v1 v2 v3 M ) : G E x M 37 [(0, .ref (ad E 29)), (1, .int v1), (2, .int v2), (3, .int v3)] [] := by
  refine g_aload_n X dX12_way_37 rfl 0 rfl ?_
  refine g_iload_n X dX12_way_38 rfl 1 rfl ?_
  refine g_iload_n X dX12_way_39 rfl 2 rfl ?_
  refine g_iload_n X dX12_way_40 rfl 3 rfl ?_
  refine cl_X12_253 X (by decide) (Nat.le_of_ble_eq_true rfl) dX12_way_41 h (fun r7 M8 h => ?_)
  refine g_goto (tgt := 49) X dX12_way_44 (by decide) ?_
  exact g_iret X hQ dX12_way_49 h
theorem w_X12_way (E : Ek) (l : Launch) {v1 : Int32} {v2 : Int32} {v3 : Int32} {M : Mem} {Post : Int32 → Mem → Prop} (h : wp_X12_way Post M v1 v2 v3) : ctI E l yX12_way cX12_way 4 (some .int) 5 [.ref (ad E 29), .int v1, .int v2, .int v3] M Post := by
  refine ct_of (by decide) (Nat.le_of_ble_eq_true rfl) (fun x X hQ => ?_)
  change G E x M 0 [(0, .ref (ad E 29)), (1, .int v1), (2, .int v2), (3, .int v3)] []
  refine g_aload_n X dX12_way_0 rfl 0 rfl ?_
  refine g_iload_n X dX12_way_1 rfl 1 rfl ?_
  refine cl_X12_215 X (by decide) (Nat.le_of_ble_eq_true rfl) dX12_way_2 h (fun r1 M2 h => ?_)
  refine g_ifeq (tgt := 16) X dX12_way_5 (by decide) h (fun h => ?_) (fun h => ?_)
  · refine g_bipush (v := (-101)) X dX12_way_16 (by decide) ?_
    exact g_iret X hQ dX12_way_18 h
  · refine g_aload_n X dX12_way_8 rfl 0 rfl ?_
    refine g_iload_n X dX12_way_9 rfl 2 rfl ?_
    refine cl_X12_246 X (by decide) (Nat.le_of_ble_eq_true rfl) dX12_way_10 h (fun r3 M4 h => ?_)
    refine g_ifne (tgt := 19) X dX12_way_13 (by decide) h (fun h => ?_) (fun h => ?_)
    · refine g_iload_n X dX12_way_19 rfl 3 rfl ?_
      refine g_ifeq (tgt := 37) X dX12_way_20 (by decide) h (fun h => ?_) (fun h => ?_)
      · exact (k_X12_way_b37 X hQ  h)
      · refine g_iload_n X dX12_way_23 rfl 3 rfl ?_
        refine g_i2l X dX12_way_24 ?_
        refine g_ldc2 X dX12_way_25 m670 ?_
        refine g_ldc2 X dX12_way_28 m671 ?_
        refine cl_X12_103 X (by decide) (Nat.le_of_ble_eq_true rfl) dX12_way_31 h (fun r5 M6 h => ?_)
        refine g_ifeq (tgt := 47) X dX12_way_34 (by decide) h (fun h => ?_) (fun h => ?_)
        · refine g_bipush (v := (-102)) X dX12_way_47 (by decide) ?_
          exact g_iret X hQ dX12_way_49 h
        · exact (k_X12_way_b37 X hQ  h)
    · refine g_bipush (v := (-101)) X dX12_way_16 (by decide) ?_
      exact g_iret X hQ dX12_way_18 h
theorem cw_X12_payHere : CW yX12_payHere cX12_payHere 4 (some .int) 1 := ⟨m676, m499, Nat.le_of_ble_eq_true rfl, by decide +kernel⟩
def wp_X12_payHere_b4 (Post : Int32 → Mem → Prop) (v1 : Int32) (P4 : Mem → Int32 → Int32 → Prop) (M : Mem) (v2 : Int32) (v3 : Int32) : Prop :=
 ((rd M 29 7) ≤ v3 →
  Post v2 M) ∧
 (¬ (rd M 29 7) ≤ v3 →
  vp_in v3 4 ∧
  (¬ (rd M 38 v3.toNatClampNeg) = v1 →
   ∀ x3_1 : Int32, x3_1 = v3 + 1 →
   P4 M v2 x3_1) ∧
  ((rd M 38 v3.toNatClampNeg) = v1 →
   vp_in v3 4 ∧
   vp_in v1 4 ∧
   (¬ (rd M 40 v3.toNatClampNeg) = (rd M 44 v1.toNatClampNeg) →
    ∀ x3_2 : Int32, x3_2 = v3 + 1 →
    P4 M v2 x3_2) ∧
   ((rd M 40 v3.toNatClampNeg) = (rd M 44 v1.toNatClampNeg) →
    wp_X12_mayThen (fun r3 M4 =>
     (r3 = 0 →
      ∀ x3_5 : Int32, x3_5 = v3 + 1 →
      P4 M4 v2 x3_5) ∧
     (¬ r3 = 0 →
      wp_X12_payThen (fun M7 =>
       vp_in v3 4 ∧
       ∀ x2_8 : Int32, x2_8 = v2 + (rd M7 41 v3.toNatClampNeg) →
       ∀ x3_9 : Int32, x3_9 = v3 + 1 →
       P4 M7 x2_8 x3_9) M4 v3)) M v3)))
def wp_X12_payHere (Post : Int32 → Mem → Prop) (M : Mem) (v1 : Int32) : Prop :=
 ∀ (P4 : Mem → Int32 → Int32 → Prop) ,
  (∀ (M : Mem) (v2 : Int32) (v3 : Int32), wp_X12_payHere_b4 Post v1 P4 M v2 v3 → P4 M v2 v3) →
 P4 M 0 0
theorem k_X12_payHere_b4 {E : Ek} {x : MC} (X : Cx E x cX12_payHere 4 RX12 3) {Post : Int32 → Mem → Prop} (hQ : QI E x Post (some .int)) {v1 : Int32} {M : Mem} {v2 : Int32} {v3 : Int32} (h : wp_X12_payHere_b4 Post v1 (fun M v2 v3 => G E x M 4 [(0, .ref (ad E 29)), (1, .int v1), (2, .int v2), (3, .int v3)] []) M v2 v3) : G E x M 4 [(0, .ref (ad E 29)), (1, .int v1), (2, .int v2), (3, .int v3)] [] := by
  refine g_iload_n X dX12_payHere_4 rfl 3 rfl ?_
  refine g_aload_n X dX12_payHere_5 rfl 0 rfl ?_
  refine fg_X12_162 X dX12_payHere_6 ?_
  refine g_icmpge (tgt := 65) X dX12_payHere_9 (by decide) h (fun h => ?_) (fun h => ?_)
  · refine g_iload_n X dX12_payHere_65 rfl 2 rfl ?_
    exact g_iret X hQ dX12_payHere_66 h
  · refine g_aload_n X dX12_payHere_12 rfl 0 rfl ?_
    refine fg_X12_34 X dX12_payHere_13 ?_
    refine g_iload_n X dX12_payHere_16 rfl 3 rfl ?_
    refine g_iald X ia_38 dX12_payHere_17 h (fun h => ?_)
    refine g_iload_n X dX12_payHere_18 rfl 1 rfl ?_
    refine g_icmpne (tgt := 59) X dX12_payHere_19 (by decide) h (fun h => ?_) (fun h => ?_)
    · refine g_iinc (w := 1) X dX12_payHere_59 3 rfl (by decide) (Nat.le_of_ble_eq_true rfl) rfl (fun x3_1 => [(0, .ref (ad E 29)), (1, .int v1), (2, .int v2), (3, .int x3_1)]) (fun _ => rfl) h (fun x3_1 h => ?_)
      refine g_goto (tgt := 4) X dX12_payHere_62 (by decide) ?_
      exact h
    · refine g_aload_n X dX12_payHere_22 rfl 0 rfl ?_
      refine fg_X12_40 X dX12_payHere_23 ?_
      refine g_iload_n X dX12_payHere_26 rfl 3 rfl ?_
      refine g_iald X ia_40 dX12_payHere_27 h (fun h => ?_)
      refine g_aload_n X dX12_payHere_28 rfl 0 rfl ?_
      refine fg_X12_52 X dX12_payHere_29 ?_
      refine g_iload_n X dX12_payHere_32 rfl 1 rfl ?_
      refine g_iald X ia_44 dX12_payHere_33 h (fun h => ?_)
      refine g_icmpne (tgt := 59) X dX12_payHere_34 (by decide) h (fun h => ?_) (fun h => ?_)
      · refine g_iinc (w := 1) X dX12_payHere_59 3 rfl (by decide) (Nat.le_of_ble_eq_true rfl) rfl (fun x3_2 => [(0, .ref (ad E 29)), (1, .int v1), (2, .int v2), (3, .int x3_2)]) (fun _ => rfl) h (fun x3_2 h => ?_)
        refine g_goto (tgt := 4) X dX12_payHere_62 (by decide) ?_
        exact h
      · refine g_aload_n X dX12_payHere_37 rfl 0 rfl ?_
        refine g_iload_n X dX12_payHere_38 rfl 3 rfl ?_
        refine cl_X12_194 X (by decide) (Nat.le_of_ble_eq_true rfl) dX12_payHere_39 h (fun r3 M4 h => ?_)
        refine g_ifeq (tgt := 59) X dX12_payHere_42 (by decide) h (fun h => ?_) (fun h => ?_)
        · refine g_iinc (w := 1) X dX12_payHere_59 3 rfl (by decide) (Nat.le_of_ble_eq_true rfl) rfl (fun x3_5 => [(0, .ref (ad E 29)), (1, .int v1), (2, .int v2), (3, .int x3_5)]) (fun _ => rfl) h (fun x3_5 h => ?_)
          refine g_goto (tgt := 4) X dX12_payHere_62 (by decide) ?_
          exact h
        · refine g_aload_n X dX12_payHere_45 rfl 0 rfl ?_
          refine g_iload_n X dX12_payHere_46 rfl 3 rfl ?_
          refine cl_X12_236 X (by decide) (Nat.le_of_ble_eq_true rfl) dX12_payHere_47 h (fun M7 h => ?_)
          refine g_iload_n X dX12_payHere_50 rfl 2 rfl ?_
          refine g_aload_n X dX12_payHere_51 rfl 0 rfl ?_
          refine fg_X12_43 X dX12_payHere_52 ?_
          refine g_iload_n X dX12_payHere_55 rfl 3 rfl ?_
          refine g_iald X ia_41 dX12_payHere_56 h (fun h => ?_)
          refine g_iadd X dX12_payHere_57 ?_
          refine g_nm h (fun x2_8 h => ?_)
          refine g_istore_n (lv' := [(0, .ref (ad E 29)), (1, .int v1), (2, .int x2_8), (3, .int v3)]) X dX12_payHere_58 rfl (Nat.le_of_ble_eq_true rfl) rfl rfl ?_
          refine g_iinc (w := 1) X dX12_payHere_59 3 rfl (by decide) (Nat.le_of_ble_eq_true rfl) rfl (fun x3_9 => [(0, .ref (ad E 29)), (1, .int v1), (2, .int x2_8), (3, .int x3_9)]) (fun _ => rfl) h (fun x3_9 h => ?_)
          refine g_goto (tgt := 4) X dX12_payHere_62 (by decide) ?_
          exact h
theorem w_X12_payHere (E : Ek) (l : Launch) {v1 : Int32} {M : Mem} {Post : Int32 → Mem → Prop} (h : wp_X12_payHere Post M v1) : ctI E l yX12_payHere cX12_payHere 4 (some .int) 3 [.ref (ad E 29), .int v1] M Post := by
  refine ct_of (by decide) (Nat.le_of_ble_eq_true rfl) (fun x X hQ => ?_)
  have h := h (fun M v2 v3 => G E x M 4 [(0, .ref (ad E 29)), (1, .int v1), (2, .int v2), (3, .int v3)] []) (fun M v2 v3 h => k_X12_payHere_b4 X hQ  h)
  change G E x M 0 [(0, .ref (ad E 29)), (1, .int v1)] []
  refine g_iconst (v := 0) X dX12_payHere_0 (by decide) ?_
  refine g_istore_n (lv' := [(0, .ref (ad E 29)), (1, .int v1), (2, .int 0)]) X dX12_payHere_1 rfl (Nat.le_of_ble_eq_true rfl) rfl rfl ?_
  refine g_iconst (v := 0) X dX12_payHere_2 (by decide) ?_
  refine g_istore_n (lv' := [(0, .ref (ad E 29)), (1, .int v1), (2, .int 0), (3, .int 0)]) X dX12_payHere_3 rfl (Nat.le_of_ble_eq_true rfl) rfl rfl ?_
  exact h
theorem cl_X12_256 {E : Ek} {x : MC} {cc : ByteArray} {nL hm pc : Nat} {M : Mem} {lv : List (Nat × Value)} {st : List Value} (X : Cx E x cc nL RX12 hm) {v1 : Int32} {Post : Int32 → Mem → Prop} (hr : 3 < hm) (hW : (st.map fun v => v.category).sum ≤ 8) (hd : decode cc pc = .ok (.invokevirtual 256, 3)) (h : wp_X12_payHere Post M v1) (kk : ∀ r M1, Post r M1 → G E x M1 (pc + 3) lv (.int r :: st)) : G E x M pc lv (.int v1 :: .ref (ad E 29) :: st) := k_I (fun hP hS hL => run_V X (w_X12_payHere E (xl x)  h) cw_X12_payHere m677 m678 m679 (⟨by decide, fun E f h => ⟨_, _, _, rfl, rfl, rfl⟩⟩ : OC 29 RX12) hr rfl hd hW hP hS hL) kk
theorem cw_X12_paysBy : CW yX12_paysBy cX12_paysBy 9 (some .int) 3 := ⟨m680, m499, Nat.le_of_ble_eq_true rfl, by decide +kernel⟩
def wp_X12_paysBy_b97 (Post : Int32 → Mem → Prop) (v1 : Int32) (v2 : Int32) (v3 : Int32) (P10 : Mem → Int32 → Int32 → Prop) (P39 : Mem → Int32 → Int32 → Int32 → Prop) (M : Mem) (v4 : Int32) (v5 : Int32) (v6 : Int32) (s0 : Int32) : Prop :=
 (¬ s0 = (-1) →
  vp_in v1 4 ∧
  ∀ M10 : Mem, M10 = wr M 44 v1.toNatClampNeg s0 →
  wp_X12_payHere (fun r11 M12 =>
   ∀ x5_13 : Int32, x5_13 = v5 + r11 →
   ∀ x6_14 : Int32, x6_14 = v6 + 1 →
   P39 M12 v4 x5_13 x6_14) M10 v1) ∧
 (s0 = (-1) →
  Post (-1) M)
def wp_X12_paysBy_b69 (Post : Int32 → Mem → Prop) (v1 : Int32) (v2 : Int32) (v3 : Int32) (P10 : Mem → Int32 → Int32 → Prop) (P39 : Mem → Int32 → Int32 → Int32 → Prop) (M : Mem) (v5 : Int32) (v6 : Int32) (v7 : Int32) (s0 : Int32) : Prop :=
 ((rd M 29 5) ≤ v7 →
  wp_X12_paysBy_b97 Post v1 v2 v3 P10 P39 M s0 v5 v6 (-1)) ∧
 (¬ (rd M 29 5) ≤ v7 →
  vp_in v1 4 ∧
  wp_X12_through (fun r8 M9 =>
   wp_X12_paysBy_b97 Post v1 v2 v3 P10 P39 M9 s0 v5 v6 r8) M v1 v7 (rd M 44 v1.toNatClampNeg))
def wp_X12_paysBy_b39 (Post : Int32 → Mem → Prop) (v1 : Int32) (v2 : Int32) (v3 : Int32) (P10 : Mem → Int32 → Int32 → Prop) (P39 : Mem → Int32 → Int32 → Int32 → Prop) (M : Mem) (v4 : Int32) (v5 : Int32) (v6 : Int32) : Prop :=
 (v3 ≤ v6 →
  Post v5 M) ∧
 (¬ v3 ≤ v6 →
  ¬ v4 = 0 ∧
  ∀ x7_7 : Int32, x7_7 = (v2 / v4) - (v2 / v4) / 6 * 6 →
  (v4 ≤ 1 →
   wp_X12_paysBy_b69 Post v1 v2 v3 P10 P39 M v5 v6 x7_7 1) ∧
  (¬ v4 ≤ 1 →
   wp_X12_paysBy_b69 Post v1 v2 v3 P10 P39 M v5 v6 x7_7 (v4 / 6)))
def wp_X12_paysBy_b10 (Post : Int32 → Mem → Prop) (v1 : Int32) (v2 : Int32) (v3 : Int32) (P10 : Mem → Int32 → Int32 → Prop) (P39 : Mem → Int32 → Int32 → Int32 → Prop) (M : Mem) (v4 : Int32) (v5 : Int32) : Prop :=
 (v3 ≤ v5 →
  wp_X12_payHere (fun r3 M4 =>
   P39 M4 v4 r3 0) M v1) ∧
 (¬ v3 ≤ v5 →
  ∀ x4_5 : Int32, x4_5 = v4 * 6 →
  ∀ x5_6 : Int32, x5_6 = v5 + 1 →
  P10 M x4_5 x5_6)
def wp_X12_paysBy (Post : Int32 → Mem → Prop) (M : Mem) (v1 : Int32) (v2 : Int32) (v3 : Int32) : Prop :=
 ∀ (P10 : Mem → Int32 → Int32 → Prop) (P39 : Mem → Int32 → Int32 → Int32 → Prop) ,
  (∀ (M : Mem) (v4 : Int32) (v5 : Int32), wp_X12_paysBy_b10 Post v1 v2 v3 P10 P39 M v4 v5 → P10 M v4 v5) →
  (∀ (M : Mem) (v4 : Int32) (v5 : Int32) (v6 : Int32), wp_X12_paysBy_b39 Post v1 v2 v3 P10 P39 M v4 v5 v6 → P39 M v4 v5 v6) →
 wp_X12_begin (fun M2 =>
  P10 M2 1 1) M 
theorem k_X12_paysBy_b97 {E : Ek} {x : MC} (X : Cx E x cX12_paysBy 9 RX12 4) {Post : Int32 → Mem → Prop} (hQ : QI E x Post (some .int)) {v1 : Int32} {v2 : Int32} {v3 : Int32} {M : Mem} {v4 : Int32} {v5 : Int32} {v6 : Int32} {s0 : Int32} (h : wp_X12_paysBy_b97 Post v1 v2 v3 (fun M v4 v5 => G E x M 10 [(0, .ref (ad E 29)), (1, .int v1), (2, .int v2), (3, .int v3), (4, .int v4), (5, .int v5)] []) (fun M v4 v5 v6 => G E x M 39 [(0, .ref (ad E 29)), (1, .int v1), (2, .int v2), (3, .int v3), (4, .int v4), (5, .int v5), (6, .int v6)] []) M v4 v5 v6 s0) : G E x M 97 [(0, .ref (ad E 29)), (1, .int v1), (2, .int v2), (3, .int v3), (4, .int v4), (5, .int v5), (6, .int v6)] [.int s0] := by
  refine g_istore (lv' := [(0, .ref (ad E 29)), (1, .int v1), (2, .int v2), (3, .int v3), (4, .int v4), (5, .int v5), (6, .int v6), (8, .int s0)]) X dX12_paysBy_97 (Nat.le_of_ble_eq_true rfl) rfl rfl ?_
  refine g_iload X dX12_paysBy_99 7 rfl ?_
  refine g_iconst (v := (-1)) X dX12_paysBy_101 (by decide) ?_
  refine g_icmpne (tgt := 107) X dX12_paysBy_102 (by decide) h (fun h => ?_) (fun h => ?_)
  · refine g_aload_n X dX12_paysBy_107 rfl 0 rfl ?_
    refine fg_X12_52 X dX12_paysBy_108 ?_
    refine g_iload_n X dX12_paysBy_111 rfl 1 rfl ?_
    refine g_iload X dX12_paysBy_112 7 rfl ?_
    refine g_iast X ia_44 dX12_paysBy_114 h (fun M10 h => ?_)
    refine g_iload X dX12_paysBy_115 5 rfl ?_
    refine g_aload_n X dX12_paysBy_117 rfl 0 rfl ?_
    refine g_iload_n X dX12_paysBy_118 rfl 1 rfl ?_
    refine cl_X12_256 X (by decide) (Nat.le_of_ble_eq_true rfl) dX12_paysBy_119 h (fun r11 M12 h => ?_)
    refine g_iadd X dX12_paysBy_122 ?_
    refine g_nm h (fun x5_13 h => ?_)
    refine g_istore (lv' := [(0, .ref (ad E 29)), (1, .int v1), (2, .int v2), (3, .int v3), (4, .int v4), (5, .int x5_13), (6, .int v6), (8, .int s0)]) X dX12_paysBy_123 (Nat.le_of_ble_eq_true rfl) rfl rfl ?_
    refine g_iinc (w := 1) X dX12_paysBy_125 6 rfl (by decide) (Nat.le_of_ble_eq_true rfl) rfl (fun x6_14 => [(0, .ref (ad E 29)), (1, .int v1), (2, .int v2), (3, .int v3), (4, .int v4), (5, .int x5_13), (6, .int x6_14), (8, .int s0)]) (fun _ => rfl) h (fun x6_14 h => ?_)
    refine g_goto (tgt := 39) X dX12_paysBy_128 (by decide) ?_
    exact g_sub [0, 1, 2, 3, 4, 5, 6] rfl h
  · refine g_iconst (v := (-1)) X dX12_paysBy_105 (by decide) ?_
    exact g_iret X hQ dX12_paysBy_106 h
theorem k_X12_paysBy_b69 {E : Ek} {x : MC} (X : Cx E x cX12_paysBy 9 RX12 4) {Post : Int32 → Mem → Prop} (hQ : QI E x Post (some .int)) {v1 : Int32} {v2 : Int32} {v3 : Int32} {M : Mem} {v5 : Int32} {v6 : Int32} {v7 : Int32} {s0 : Int32} (h : wp_X12_paysBy_b69 Post v1 v2 v3 (fun M v4 v5 => G E x M 10 [(0, .ref (ad E 29)), (1, .int v1), (2, .int v2), (3, .int v3), (4, .int v4), (5, .int v5)] []) (fun M v4 v5 v6 => G E x M 39 [(0, .ref (ad E 29)), (1, .int v1), (2, .int v2), (3, .int v3), (4, .int v4), (5, .int v5), (6, .int v6)] []) M v5 v6 v7 s0) : G E x M 69 [(0, .ref (ad E 29)), (1, .int v1), (2, .int v2), (3, .int v3), (5, .int v5), (6, .int v6), (7, .int v7)] [.int s0] := by
  refine g_istore (lv' := [(0, .ref (ad E 29)), (1, .int v1), (2, .int v2), (3, .int v3), (4, .int s0), (5, .int v5), (6, .int v6), (7, .int v7)]) X dX12_paysBy_69 (Nat.le_of_ble_eq_true rfl) rfl rfl ?_
  refine g_iload X dX12_paysBy_71 7 rfl ?_
  refine g_aload_n X dX12_paysBy_73 rfl 0 rfl ?_
  refine fg_X12_156 X dX12_paysBy_74 ?_
  refine g_icmpge (tgt := 96) X dX12_paysBy_77 (by decide) h (fun h => ?_) (fun h => ?_)
  · refine g_iconst (v := (-1)) X dX12_paysBy_96 (by decide) ?_
    exact g_sub [0, 1, 2, 3, 4, 5, 6] rfl (k_X12_paysBy_b97 X hQ  h)
  · refine g_aload_n X dX12_paysBy_80 rfl 0 rfl ?_
    refine g_iload_n X dX12_paysBy_81 rfl 1 rfl ?_
    refine g_iload X dX12_paysBy_82 7 rfl ?_
    refine g_aload_n X dX12_paysBy_84 rfl 0 rfl ?_
    refine fg_X12_52 X dX12_paysBy_85 ?_
    refine g_iload_n X dX12_paysBy_88 rfl 1 rfl ?_
    refine g_iald X ia_44 dX12_paysBy_89 h (fun h => ?_)
    refine cl_X12_187 X (by decide) (Nat.le_of_ble_eq_true rfl) dX12_paysBy_90 h (fun r8 M9 h => ?_)
    refine g_goto (tgt := 97) X dX12_paysBy_93 (by decide) ?_
    exact g_sub [0, 1, 2, 3, 4, 5, 6] rfl (k_X12_paysBy_b97 X hQ  h)
theorem k_X12_paysBy_b39 {E : Ek} {x : MC} (X : Cx E x cX12_paysBy 9 RX12 4) {Post : Int32 → Mem → Prop} (hQ : QI E x Post (some .int)) {v1 : Int32} {v2 : Int32} {v3 : Int32} {M : Mem} {v4 : Int32} {v5 : Int32} {v6 : Int32} (h : wp_X12_paysBy_b39 Post v1 v2 v3 (fun M v4 v5 => G E x M 10 [(0, .ref (ad E 29)), (1, .int v1), (2, .int v2), (3, .int v3), (4, .int v4), (5, .int v5)] []) (fun M v4 v5 v6 => G E x M 39 [(0, .ref (ad E 29)), (1, .int v1), (2, .int v2), (3, .int v3), (4, .int v4), (5, .int v5), (6, .int v6)] []) M v4 v5 v6) : G E x M 39 [(0, .ref (ad E 29)), (1, .int v1), (2, .int v2), (3, .int v3), (4, .int v4), (5, .int v5), (6, .int v6)] [] := by
  refine g_iload X dX12_paysBy_39 6 rfl ?_
  refine g_iload_n X dX12_paysBy_41 rfl 3 rfl ?_
  refine g_icmpge (tgt := 131) X dX12_paysBy_42 (by decide) h (fun h => ?_) (fun h => ?_)
  · refine g_iload X dX12_paysBy_131 5 rfl ?_
    exact g_iret X hQ dX12_paysBy_133 h
  · refine g_iload_n X dX12_paysBy_45 rfl 2 rfl ?_
    refine g_iload X dX12_paysBy_46 4 rfl ?_
    refine g_idiv X dX12_paysBy_48 h (fun h => ?_)
    refine g_bipush (v := 6) X dX12_paysBy_49 (by decide) ?_
    refine g_irem X dX12_paysBy_51 ⟨by decide, h⟩ (fun h => ?_)
    refine g_nm h (fun x7_7 h => ?_)
    refine g_istore (lv' := [(0, .ref (ad E 29)), (1, .int v1), (2, .int v2), (3, .int v3), (4, .int v4), (5, .int v5), (6, .int v6), (7, .int x7_7)]) X dX12_paysBy_52 (Nat.le_of_ble_eq_true rfl) rfl rfl ?_
    refine g_iload X dX12_paysBy_54 4 rfl ?_
    refine g_iconst (v := 1) X dX12_paysBy_56 (by decide) ?_
    refine g_icmple (tgt := 68) X dX12_paysBy_57 (by decide) h (fun h => ?_) (fun h => ?_)
    · refine g_iconst (v := 1) X dX12_paysBy_68 (by decide) ?_
      exact g_sub [0, 1, 2, 3, 5, 6, 7] rfl (k_X12_paysBy_b69 X hQ  h)
    · refine g_iload X dX12_paysBy_60 4 rfl ?_
      refine g_bipush (v := 6) X dX12_paysBy_62 (by decide) ?_
      refine g_idiv X dX12_paysBy_64 ⟨by decide, h⟩ (fun h => ?_)
      refine g_goto (tgt := 69) X dX12_paysBy_65 (by decide) ?_
      exact g_sub [0, 1, 2, 3, 5, 6, 7] rfl (k_X12_paysBy_b69 X hQ  h)
theorem k_X12_paysBy_b10 {E : Ek} {x : MC} (X : Cx E x cX12_paysBy 9 RX12 4) {Post : Int32 → Mem → Prop} (hQ : QI E x Post (some .int)) {v1 : Int32} {v2 : Int32} {v3 : Int32} {M : Mem} {v4 : Int32} {v5 : Int32} (h : wp_X12_paysBy_b10 Post v1 v2 v3 (fun M v4 v5 => G E x M 10 [(0, .ref (ad E 29)), (1, .int v1), (2, .int v2), (3, .int v3), (4, .int v4), (5, .int v5)] []) (fun M v4 v5 v6 => G E x M 39 [(0, .ref (ad E 29)), (1, .int v1), (2, .int v2), (3, .int v3), (4, .int v4), (5, .int v5), (6, .int v6)] []) M v4 v5) : G E x M 10 [(0, .ref (ad E 29)), (1, .int v1), (2, .int v2), (3, .int v3), (4, .int v4), (5, .int v5)] [] := by
  refine g_iload X dX12_paysBy_10 5 rfl ?_
  refine g_iload_n X dX12_paysBy_12 rfl 3 rfl ?_
  refine g_icmpge (tgt := 29) X dX12_paysBy_13 (by decide) h (fun h => ?_) (fun h => ?_)
  · refine g_aload_n X dX12_paysBy_29 rfl 0 rfl ?_
    refine g_iload_n X dX12_paysBy_30 rfl 1 rfl ?_
    refine cl_X12_256 X (by decide) (Nat.le_of_ble_eq_true rfl) dX12_paysBy_31 h (fun r3 M4 h => ?_)
    refine g_istore (lv' := [(0, .ref (ad E 29)), (1, .int v1), (2, .int v2), (3, .int v3), (4, .int v4), (5, .int r3)]) X dX12_paysBy_34 (Nat.le_of_ble_eq_true rfl) rfl rfl ?_
    refine g_iconst (v := 0) X dX12_paysBy_36 (by decide) ?_
    refine g_istore (lv' := [(0, .ref (ad E 29)), (1, .int v1), (2, .int v2), (3, .int v3), (4, .int v4), (5, .int r3), (6, .int 0)]) X dX12_paysBy_37 (Nat.le_of_ble_eq_true rfl) rfl rfl ?_
    exact h
  · refine g_iload X dX12_paysBy_16 4 rfl ?_
    refine g_bipush (v := 6) X dX12_paysBy_18 (by decide) ?_
    refine g_imul X dX12_paysBy_20 ?_
    refine g_nm h (fun x4_5 h => ?_)
    refine g_istore (lv' := [(0, .ref (ad E 29)), (1, .int v1), (2, .int v2), (3, .int v3), (4, .int x4_5), (5, .int v5)]) X dX12_paysBy_21 (Nat.le_of_ble_eq_true rfl) rfl rfl ?_
    refine g_iinc (w := 1) X dX12_paysBy_23 5 rfl (by decide) (Nat.le_of_ble_eq_true rfl) rfl (fun x5_6 => [(0, .ref (ad E 29)), (1, .int v1), (2, .int v2), (3, .int v3), (4, .int x4_5), (5, .int x5_6)]) (fun _ => rfl) h (fun x5_6 h => ?_)
    refine g_goto (tgt := 10) X dX12_paysBy_26 (by decide) ?_
    exact h
theorem w_X12_paysBy (E : Ek) (l : Launch) {v1 : Int32} {v2 : Int32} {v3 : Int32} {M : Mem} {Post : Int32 → Mem → Prop} (h : wp_X12_paysBy Post M v1 v2 v3) : ctI E l yX12_paysBy cX12_paysBy 9 (some .int) 4 [.ref (ad E 29), .int v1, .int v2, .int v3] M Post := by
  refine ct_of (by decide) (Nat.le_of_ble_eq_true rfl) (fun x X hQ => ?_)
  have h := h (fun M v4 v5 => G E x M 10 [(0, .ref (ad E 29)), (1, .int v1), (2, .int v2), (3, .int v3), (4, .int v4), (5, .int v5)] []) (fun M v4 v5 v6 => G E x M 39 [(0, .ref (ad E 29)), (1, .int v1), (2, .int v2), (3, .int v3), (4, .int v4), (5, .int v5), (6, .int v6)] []) (fun M v4 v5 h => k_X12_paysBy_b10 X hQ  h) (fun M v4 v5 v6 h => k_X12_paysBy_b39 X hQ  h)
  change G E x M 0 [(0, .ref (ad E 29)), (1, .int v1), (2, .int v2), (3, .int v3)] []
  refine g_aload_n X dX12_paysBy_0 rfl 0 rfl ?_
  refine cl_X12_191 X (by decide) (Nat.le_of_ble_eq_true rfl) dX12_paysBy_1 h (fun M2 h => ?_)
  refine g_iconst (v := 1) X dX12_paysBy_4 (by decide) ?_
  refine g_istore (lv' := [(0, .ref (ad E 29)), (1, .int v1), (2, .int v2), (3, .int v3), (4, .int 1)]) X dX12_paysBy_5 (Nat.le_of_ble_eq_true rfl) rfl rfl ?_
  refine g_iconst (v := 1) X dX12_paysBy_7 (by decide) ?_
  refine g_istore (lv' := [(0, .ref (ad E 29)), (1, .int v1), (2, .int v2), (3, .int v3), (4, .int 1), (5, .int 1)]) X dX12_paysBy_8 (Nat.le_of_ble_eq_true rfl) rfl rfl ?_
  exact h
theorem cl_X12_259 {E : Ek} {x : MC} {cc : ByteArray} {nL hm pc : Nat} {M : Mem} {lv : List (Nat × Value)} {st : List Value} (X : Cx E x cc nL RX12 hm) {v1 : Int32} {v2 : Int32} {v3 : Int32} {Post : Int32 → Mem → Prop} (hr : 4 < hm) (hW : (st.map fun v => v.category).sum ≤ 8) (hd : decode cc pc = .ok (.invokevirtual 259, 3)) (h : wp_X12_paysBy Post M v1 v2 v3) (kk : ∀ r M1, Post r M1 → G E x M1 (pc + 3) lv (.int r :: st)) : G E x M pc lv (.int v3 :: .int v2 :: .int v1 :: .ref (ad E 29) :: st) := k_I (fun hP hS hL => run_V X (w_X12_paysBy E (xl x)  h) cw_X12_paysBy m681 m682 m683 (⟨by decide, fun E f h => ⟨_, _, _, rfl, rfl, rfl⟩⟩ : OC 29 RX12) hr rfl hd hW hP hS hL) kk
theorem cw_X12_nightOf : CW yX12_nightOf cX12_nightOf 9 (some .int) 3 := ⟨m684, m499, Nat.le_of_ble_eq_true rfl, by decide +kernel⟩
def wp_X12_nightOf_b114 (Post : Int32 → Mem → Prop) (v1 : Int32) (v2 : Int32) (v3 : Int32) (P6 : Mem → Int32 → Int32 → Prop) (P34 : Mem → Int32 → Int32 → Int32 → Int32 → Prop) (P114 : Mem → Int32 → Int32 → Int32 → Prop) (M : Mem) (v5 : Int32) (v7 : Int32) (v8 : Int32) : Prop :=
 (v2 ≤ v8 →
  (v2 ≤ v7 →
   Post (-1) M) ∧
  (¬ v2 ≤ v7 →
   Post (v5 - v5 / 6 * 6) M)) ∧
 (¬ v2 ≤ v8 →
  ∀ x5_9 : Int32, x5_9 = v5 / 6 →
  ∀ x8_10 : Int32, x8_10 = v8 + 1 →
  P114 M x5_9 v7 x8_10)
def wp_X12_nightOf_b65 (Post : Int32 → Mem → Prop) (v1 : Int32) (v2 : Int32) (v3 : Int32) (P6 : Mem → Int32 → Int32 → Prop) (P34 : Mem → Int32 → Int32 → Int32 → Int32 → Prop) (P114 : Mem → Int32 → Int32 → Int32 → Prop) (M : Mem) (v4 : Int32) (v6 : Int32) (v7 : Int32) (v8 : Int32) (s0 : Int32) : Prop :=
 (v8 ≤ v6 →
  ∀ x7_7 : Int32, x7_7 = v7 + 1 →
  P34 M v4 s0 v6 x7_7) ∧
 (¬ v8 ≤ v6 →
  ∀ x7_8 : Int32, x7_8 = v7 + 1 →
  P34 M v4 s0 v8 x7_8)
def wp_X12_nightOf_b34 (Post : Int32 → Mem → Prop) (v1 : Int32) (v2 : Int32) (v3 : Int32) (P6 : Mem → Int32 → Int32 → Prop) (P34 : Mem → Int32 → Int32 → Int32 → Int32 → Prop) (P114 : Mem → Int32 → Int32 → Int32 → Prop) (M : Mem) (v4 : Int32) (v5 : Int32) (v6 : Int32) (v7 : Int32) : Prop :=
 (v4 ≤ v7 →
  (v3 = 0 →
   Post v6 M) ∧
  (¬ v3 = 0 →
   (¬ v6 = (-1) →
    ∀ x7_3 : Int32, x7_3 = v3 - 10 →
    ∀ x8_4 : Int32, x8_4 = x7_3 + 1 →
    P114 M v5 x7_3 x8_4) ∧
   (v6 = (-1) →
    Post v6 M))) ∧
 (¬ v4 ≤ v7 →
  wp_X12_paysBy (fun r5 M6 =>
   (r5 ≤ v6 →
    wp_X12_nightOf_b65 Post v1 v2 v3 P6 P34 P114 M6 v4 v6 v7 r5 v5) ∧
   (¬ r5 ≤ v6 →
    wp_X12_nightOf_b65 Post v1 v2 v3 P6 P34 P114 M6 v4 v6 v7 r5 v7)) M v1 v7 v2)
def wp_X12_nightOf_b6 (Post : Int32 → Mem → Prop) (v1 : Int32) (v2 : Int32) (v3 : Int32) (P6 : Mem → Int32 → Int32 → Prop) (P34 : Mem → Int32 → Int32 → Int32 → Int32 → Prop) (P114 : Mem → Int32 → Int32 → Int32 → Prop) (M : Mem) (v4 : Int32) (v5 : Int32) : Prop :=
 (v2 ≤ v5 →
  P34 M v4 (-1) (-1) 0) ∧
 (¬ v2 ≤ v5 →
  ∀ x4_1 : Int32, x4_1 = v4 * 6 →
  ∀ x5_2 : Int32, x5_2 = v5 + 1 →
  P6 M x4_1 x5_2)
def wp_X12_nightOf (Post : Int32 → Mem → Prop) (M : Mem) (v1 : Int32) (v2 : Int32) (v3 : Int32) : Prop :=
 ∀ (P6 : Mem → Int32 → Int32 → Prop) (P34 : Mem → Int32 → Int32 → Int32 → Int32 → Prop) (P114 : Mem → Int32 → Int32 → Int32 → Prop) ,
  (∀ (M : Mem) (v4 : Int32) (v5 : Int32), wp_X12_nightOf_b6 Post v1 v2 v3 P6 P34 P114 M v4 v5 → P6 M v4 v5) →
  (∀ (M : Mem) (v4 : Int32) (v5 : Int32) (v6 : Int32) (v7 : Int32), wp_X12_nightOf_b34 Post v1 v2 v3 P6 P34 P114 M v4 v5 v6 v7 → P34 M v4 v5 v6 v7) →
  (∀ (M : Mem) (v5 : Int32) (v7 : Int32) (v8 : Int32), wp_X12_nightOf_b114 Post v1 v2 v3 P6 P34 P114 M v5 v7 v8 → P114 M v5 v7 v8) →
 P6 M 1 0
theorem k_X12_nightOf_b114 {E : Ek} {x : MC} (X : Cx E x cX12_nightOf 9 RX12 5) {Post : Int32 → Mem → Prop} (hQ : QI E x Post (some .int)) {v1 : Int32} {v2 : Int32} {v3 : Int32} {M : Mem} {v5 : Int32} {v7 : Int32} {v8 : Int32} (h : wp_X12_nightOf_b114 Post v1 v2 v3 (fun M v4 v5 => G E x M 6 [(0, .ref (ad E 29)), (1, .int v1), (2, .int v2), (3, .int v3), (4, .int v4), (5, .int v5)] []) (fun M v4 v5 v6 v7 => G E x M 34 [(0, .ref (ad E 29)), (1, .int v1), (2, .int v2), (3, .int v3), (4, .int v4), (5, .int v5), (6, .int v6), (7, .int v7)] []) (fun M v5 v7 v8 => G E x M 114 [(2, .int v2), (5, .int v5), (7, .int v7), (8, .int v8)] []) M v5 v7 v8) : G E x M 114 [(2, .int v2), (5, .int v5), (7, .int v7), (8, .int v8)] [] := by
  refine g_iload X dX12_nightOf_114 3 rfl ?_
  refine g_iload_n X dX12_nightOf_116 rfl 0 rfl ?_
  refine g_icmpge (tgt := 133) X dX12_nightOf_117 (by decide) h (fun h => ?_) (fun h => ?_)
  · refine g_iload X dX12_nightOf_133 2 rfl ?_
    refine g_iload_n X dX12_nightOf_135 rfl 0 rfl ?_
    refine g_icmpge (tgt := 147) X dX12_nightOf_136 (by decide) h (fun h => ?_) (fun h => ?_)
    · refine g_iconst (v := (-1)) X dX12_nightOf_147 (by decide) ?_
      exact g_iret X hQ dX12_nightOf_148 h
    · refine g_iload X dX12_nightOf_139 1 rfl ?_
      refine g_bipush (v := 6) X dX12_nightOf_141 (by decide) ?_
      refine g_irem X dX12_nightOf_143 ⟨by decide, h⟩ (fun h => ?_)
      refine g_goto (tgt := 148) X dX12_nightOf_144 (by decide) ?_
      exact g_iret X hQ dX12_nightOf_148 h
  · refine g_iload X dX12_nightOf_120 1 rfl ?_
    refine g_bipush (v := 6) X dX12_nightOf_122 (by decide) ?_
    refine g_idiv X dX12_nightOf_124 ⟨by decide, h⟩ (fun h => ?_)
    refine g_nm h (fun x5_9 h => ?_)
    refine g_istore (lv' := [(2, .int v2), (5, .int x5_9), (7, .int v7), (8, .int v8)]) X dX12_nightOf_125 (Nat.le_of_ble_eq_true rfl) rfl rfl ?_
    refine g_iinc (w := 1) X dX12_nightOf_127 3 rfl (by decide) (Nat.le_of_ble_eq_true rfl) rfl (fun x8_10 => [(2, .int v2), (5, .int x5_9), (7, .int v7), (8, .int x8_10)]) (fun _ => rfl) h (fun x8_10 h => ?_)
    refine g_goto (tgt := 114) X dX12_nightOf_130 (by decide) ?_
    exact h
theorem k_X12_nightOf_b65 {E : Ek} {x : MC} (X : Cx E x cX12_nightOf 9 RX12 5) {Post : Int32 → Mem → Prop} (hQ : QI E x Post (some .int)) {v1 : Int32} {v2 : Int32} {v3 : Int32} {M : Mem} {v4 : Int32} {v6 : Int32} {v7 : Int32} {v8 : Int32} {s0 : Int32} (h : wp_X12_nightOf_b65 Post v1 v2 v3 (fun M v4 v5 => G E x M 6 [(0, .ref (ad E 29)), (1, .int v1), (2, .int v2), (3, .int v3), (4, .int v4), (5, .int v5)] []) (fun M v4 v5 v6 v7 => G E x M 34 [(0, .ref (ad E 29)), (1, .int v1), (2, .int v2), (3, .int v3), (4, .int v4), (5, .int v5), (6, .int v6), (7, .int v7)] []) (fun M v5 v7 v8 => G E x M 114 [(2, .int v2), (5, .int v5), (7, .int v7), (8, .int v8)] []) M v4 v6 v7 v8 s0) : G E x M 65 [(0, .ref (ad E 29)), (1, .int v1), (2, .int v2), (3, .int v3), (4, .int v4), (6, .int v6), (7, .int v7), (8, .int v8)] [.int s0] := by
  refine g_istore (lv' := [(0, .ref (ad E 29)), (1, .int v1), (2, .int v2), (3, .int v3), (4, .int v4), (5, .int s0), (6, .int v6), (7, .int v7), (8, .int v8)]) X dX12_nightOf_65 (Nat.le_of_ble_eq_true rfl) rfl rfl ?_
  refine g_iload X dX12_nightOf_67 8 rfl ?_
  refine g_iload X dX12_nightOf_69 6 rfl ?_
  refine g_icmple (tgt := 79) X dX12_nightOf_71 (by decide) h (fun h => ?_) (fun h => ?_)
  · refine g_iload X dX12_nightOf_79 6 rfl ?_
    refine g_istore (lv' := [(0, .ref (ad E 29)), (1, .int v1), (2, .int v2), (3, .int v3), (4, .int v4), (5, .int s0), (6, .int v6), (7, .int v7), (8, .int v8)]) X dX12_nightOf_81 (Nat.le_of_ble_eq_true rfl) rfl rfl ?_
    refine g_iinc (w := 1) X dX12_nightOf_83 7 rfl (by decide) (Nat.le_of_ble_eq_true rfl) rfl (fun x7_7 => [(0, .ref (ad E 29)), (1, .int v1), (2, .int v2), (3, .int v3), (4, .int v4), (5, .int s0), (6, .int v6), (7, .int x7_7), (8, .int v8)]) (fun _ => rfl) h (fun x7_7 h => ?_)
    refine g_goto (tgt := 34) X dX12_nightOf_86 (by decide) ?_
    exact g_sub [0, 1, 2, 3, 4, 5, 6, 7] rfl h
  · refine g_iload X dX12_nightOf_74 8 rfl ?_
    refine g_goto (tgt := 81) X dX12_nightOf_76 (by decide) ?_
    refine g_istore (lv' := [(0, .ref (ad E 29)), (1, .int v1), (2, .int v2), (3, .int v3), (4, .int v4), (5, .int s0), (6, .int v8), (7, .int v7), (8, .int v8)]) X dX12_nightOf_81 (Nat.le_of_ble_eq_true rfl) rfl rfl ?_
    refine g_iinc (w := 1) X dX12_nightOf_83 7 rfl (by decide) (Nat.le_of_ble_eq_true rfl) rfl (fun x7_8 => [(0, .ref (ad E 29)), (1, .int v1), (2, .int v2), (3, .int v3), (4, .int v4), (5, .int s0), (6, .int v8), (7, .int x7_8), (8, .int v8)]) (fun _ => rfl) h (fun x7_8 h => ?_)
    refine g_goto (tgt := 34) X dX12_nightOf_86 (by decide) ?_
    exact g_sub [0, 1, 2, 3, 4, 5, 6, 7] rfl h
theorem k_X12_nightOf_b34 {E : Ek} {x : MC} (X : Cx E x cX12_nightOf 9 RX12 5) {Post : Int32 → Mem → Prop} (hQ : QI E x Post (some .int)) {v1 : Int32} {v2 : Int32} {v3 : Int32} {M : Mem} {v4 : Int32} {v5 : Int32} {v6 : Int32} {v7 : Int32} (h : wp_X12_nightOf_b34 Post v1 v2 v3 (fun M v4 v5 => G E x M 6 [(0, .ref (ad E 29)), (1, .int v1), (2, .int v2), (3, .int v3), (4, .int v4), (5, .int v5)] []) (fun M v4 v5 v6 v7 => G E x M 34 [(0, .ref (ad E 29)), (1, .int v1), (2, .int v2), (3, .int v3), (4, .int v4), (5, .int v5), (6, .int v6), (7, .int v7)] []) (fun M v5 v7 v8 => G E x M 114 [(2, .int v2), (5, .int v5), (7, .int v7), (8, .int v8)] []) M v4 v5 v6 v7) : G E x M 34 [(0, .ref (ad E 29)), (1, .int v1), (2, .int v2), (3, .int v3), (4, .int v4), (5, .int v5), (6, .int v6), (7, .int v7)] [] := by
  refine g_iload X dX12_nightOf_34 7 rfl ?_
  refine g_iload X dX12_nightOf_36 4 rfl ?_
  refine g_icmpge (tgt := 89) X dX12_nightOf_38 (by decide) h (fun h => ?_) (fun h => ?_)
  · refine g_iload_n X dX12_nightOf_89 rfl 3 rfl ?_
    refine g_ifeq (tgt := 99) X dX12_nightOf_90 (by decide) h (fun h => ?_) (fun h => ?_)
    · refine g_iload X dX12_nightOf_99 6 rfl ?_
      exact g_iret X hQ dX12_nightOf_101 h
    · refine g_iload X dX12_nightOf_93 6 rfl ?_
      refine g_iconst (v := (-1)) X dX12_nightOf_95 (by decide) ?_
      refine g_icmpne (tgt := 102) X dX12_nightOf_96 (by decide) h (fun h => ?_) (fun h => ?_)
      · refine g_iload_n X dX12_nightOf_102 rfl 3 rfl ?_
        refine g_bipush (v := 10) X dX12_nightOf_103 (by decide) ?_
        refine g_isub X dX12_nightOf_105 ?_
        refine g_nm h (fun x7_3 h => ?_)
        refine g_istore (lv' := [(0, .ref (ad E 29)), (1, .int v1), (2, .int v2), (3, .int v3), (4, .int v4), (5, .int v5), (6, .int v6), (7, .int x7_3)]) X dX12_nightOf_106 (Nat.le_of_ble_eq_true rfl) rfl rfl ?_
        refine g_iload X dX12_nightOf_108 7 rfl ?_
        refine g_iconst (v := 1) X dX12_nightOf_110 (by decide) ?_
        refine g_iadd X dX12_nightOf_111 ?_
        refine g_nm h (fun x8_4 h => ?_)
        refine g_istore (lv' := [(0, .ref (ad E 29)), (1, .int v1), (2, .int v2), (3, .int v3), (4, .int v4), (5, .int v5), (6, .int v6), (7, .int x7_3), (8, .int x8_4)]) X dX12_nightOf_112 (Nat.le_of_ble_eq_true rfl) rfl rfl ?_
        exact g_sub [2, 5, 7, 8] rfl h
      · refine g_iload X dX12_nightOf_99 6 rfl ?_
        exact g_iret X hQ dX12_nightOf_101 h
  · refine g_aload_n X dX12_nightOf_41 rfl 0 rfl ?_
    refine g_iload_n X dX12_nightOf_42 rfl 1 rfl ?_
    refine g_iload X dX12_nightOf_43 7 rfl ?_
    refine g_iload_n X dX12_nightOf_45 rfl 2 rfl ?_
    refine cl_X12_259 X (by decide) (Nat.le_of_ble_eq_true rfl) dX12_nightOf_46 h (fun r5 M6 h => ?_)
    refine g_istore (lv' := [(0, .ref (ad E 29)), (1, .int v1), (2, .int v2), (3, .int v3), (4, .int v4), (5, .int v5), (6, .int v6), (7, .int v7), (8, .int r5)]) X dX12_nightOf_49 (Nat.le_of_ble_eq_true rfl) rfl rfl ?_
    refine g_iload X dX12_nightOf_51 8 rfl ?_
    refine g_iload X dX12_nightOf_53 6 rfl ?_
    refine g_icmple (tgt := 63) X dX12_nightOf_55 (by decide) h (fun h => ?_) (fun h => ?_)
    · refine g_iload X dX12_nightOf_63 5 rfl ?_
      exact g_sub [0, 1, 2, 3, 4, 6, 7, 8] rfl (k_X12_nightOf_b65 X hQ  h)
    · refine g_iload X dX12_nightOf_58 7 rfl ?_
      refine g_goto (tgt := 65) X dX12_nightOf_60 (by decide) ?_
      exact g_sub [0, 1, 2, 3, 4, 6, 7, 8] rfl (k_X12_nightOf_b65 X hQ  h)
theorem k_X12_nightOf_b6 {E : Ek} {x : MC} (X : Cx E x cX12_nightOf 9 RX12 5) {Post : Int32 → Mem → Prop} (hQ : QI E x Post (some .int)) {v1 : Int32} {v2 : Int32} {v3 : Int32} {M : Mem} {v4 : Int32} {v5 : Int32} (h : wp_X12_nightOf_b6 Post v1 v2 v3 (fun M v4 v5 => G E x M 6 [(0, .ref (ad E 29)), (1, .int v1), (2, .int v2), (3, .int v3), (4, .int v4), (5, .int v5)] []) (fun M v4 v5 v6 v7 => G E x M 34 [(0, .ref (ad E 29)), (1, .int v1), (2, .int v2), (3, .int v3), (4, .int v4), (5, .int v5), (6, .int v6), (7, .int v7)] []) (fun M v5 v7 v8 => G E x M 114 [(2, .int v2), (5, .int v5), (7, .int v7), (8, .int v8)] []) M v4 v5) : G E x M 6 [(0, .ref (ad E 29)), (1, .int v1), (2, .int v2), (3, .int v3), (4, .int v4), (5, .int v5)] [] := by
  refine g_iload X dX12_nightOf_6 5 rfl ?_
  refine g_iload_n X dX12_nightOf_8 rfl 2 rfl ?_
  refine g_icmpge (tgt := 25) X dX12_nightOf_9 (by decide) h (fun h => ?_) (fun h => ?_)
  · refine g_iconst (v := (-1)) X dX12_nightOf_25 (by decide) ?_
    refine g_istore (lv' := [(0, .ref (ad E 29)), (1, .int v1), (2, .int v2), (3, .int v3), (4, .int v4), (5, .int (-1))]) X dX12_nightOf_26 (Nat.le_of_ble_eq_true rfl) rfl rfl ?_
    refine g_iconst (v := (-1)) X dX12_nightOf_28 (by decide) ?_
    refine g_istore (lv' := [(0, .ref (ad E 29)), (1, .int v1), (2, .int v2), (3, .int v3), (4, .int v4), (5, .int (-1)), (6, .int (-1))]) X dX12_nightOf_29 (Nat.le_of_ble_eq_true rfl) rfl rfl ?_
    refine g_iconst (v := 0) X dX12_nightOf_31 (by decide) ?_
    refine g_istore (lv' := [(0, .ref (ad E 29)), (1, .int v1), (2, .int v2), (3, .int v3), (4, .int v4), (5, .int (-1)), (6, .int (-1)), (7, .int 0)]) X dX12_nightOf_32 (Nat.le_of_ble_eq_true rfl) rfl rfl ?_
    exact h
  · refine g_iload X dX12_nightOf_12 4 rfl ?_
    refine g_bipush (v := 6) X dX12_nightOf_14 (by decide) ?_
    refine g_imul X dX12_nightOf_16 ?_
    refine g_nm h (fun x4_1 h => ?_)
    refine g_istore (lv' := [(0, .ref (ad E 29)), (1, .int v1), (2, .int v2), (3, .int v3), (4, .int x4_1), (5, .int v5)]) X dX12_nightOf_17 (Nat.le_of_ble_eq_true rfl) rfl rfl ?_
    refine g_iinc (w := 1) X dX12_nightOf_19 5 rfl (by decide) (Nat.le_of_ble_eq_true rfl) rfl (fun x5_2 => [(0, .ref (ad E 29)), (1, .int v1), (2, .int v2), (3, .int v3), (4, .int x4_1), (5, .int x5_2)]) (fun _ => rfl) h (fun x5_2 h => ?_)
    refine g_goto (tgt := 6) X dX12_nightOf_22 (by decide) ?_
    exact h
theorem w_X12_nightOf (E : Ek) (l : Launch) {v1 : Int32} {v2 : Int32} {v3 : Int32} {M : Mem} {Post : Int32 → Mem → Prop} (h : wp_X12_nightOf Post M v1 v2 v3) : ctI E l yX12_nightOf cX12_nightOf 9 (some .int) 5 [.ref (ad E 29), .int v1, .int v2, .int v3] M Post := by
  refine ct_of (by decide) (Nat.le_of_ble_eq_true rfl) (fun x X hQ => ?_)
  have h := h (fun M v4 v5 => G E x M 6 [(0, .ref (ad E 29)), (1, .int v1), (2, .int v2), (3, .int v3), (4, .int v4), (5, .int v5)] []) (fun M v4 v5 v6 v7 => G E x M 34 [(0, .ref (ad E 29)), (1, .int v1), (2, .int v2), (3, .int v3), (4, .int v4), (5, .int v5), (6, .int v6), (7, .int v7)] []) (fun M v5 v7 v8 => G E x M 114 [(2, .int v2), (5, .int v5), (7, .int v7), (8, .int v8)] []) (fun M v4 v5 h => k_X12_nightOf_b6 X hQ  h) (fun M v4 v5 v6 v7 h => k_X12_nightOf_b34 X hQ  h) (fun M v5 v7 v8 h => k_X12_nightOf_b114 X hQ  h)
  change G E x M 0 [(0, .ref (ad E 29)), (1, .int v1), (2, .int v2), (3, .int v3)] []
  refine g_iconst (v := 1) X dX12_nightOf_0 (by decide) ?_
  refine g_istore (lv' := [(0, .ref (ad E 29)), (1, .int v1), (2, .int v2), (3, .int v3), (4, .int 1)]) X dX12_nightOf_1 (Nat.le_of_ble_eq_true rfl) rfl rfl ?_
  refine g_iconst (v := 0) X dX12_nightOf_3 (by decide) ?_
  refine g_istore (lv' := [(0, .ref (ad E 29)), (1, .int v1), (2, .int v2), (3, .int v3), (4, .int 1), (5, .int 0)]) X dX12_nightOf_4 (Nat.le_of_ble_eq_true rfl) rfl rfl ?_
  exact h
theorem cl_X12_264 {E : Ek} {x : MC} {cc : ByteArray} {nL hm pc : Nat} {M : Mem} {lv : List (Nat × Value)} {st : List Value} (X : Cx E x cc nL RX12 hm) {v1 : Int32} {v2 : Int32} {v3 : Int32} {Post : Int32 → Mem → Prop} (hr : 5 < hm) (hW : (st.map fun v => v.category).sum ≤ 8) (hd : decode cc pc = .ok (.invokevirtual 264, 3)) (h : wp_X12_nightOf Post M v1 v2 v3) (kk : ∀ r M1, Post r M1 → G E x M1 (pc + 3) lv (.int r :: st)) : G E x M pc lv (.int v3 :: .int v2 :: .int v1 :: .ref (ad E 29) :: st) := k_I (fun hP hS hL => run_V X (w_X12_nightOf E (xl x)  h) cw_X12_nightOf m686 m687 m688 (⟨by decide, fun E f h => ⟨_, _, _, rfl, rfl, rfl⟩⟩ : OC 29 RX12) hr rfl hd hW hP hS hL) kk
theorem cw_X12_night : CW yX12_night cX12_night 4 (some .int) 3 := ⟨m689, m499, Nat.le_of_ble_eq_true rfl, by decide +kernel⟩
def wp_X12_night_b41 (Post : Int32 → Mem → Prop) (v1 : Int32) (v2 : Int32) (v3 : Int32) (M : Mem) : Prop :=
 wp_X12_nightOf (fun r7 M8 =>
  Post r7 M8) M v1 v2 v3
def wp_X12_night (Post : Int32 → Mem → Prop) (M : Mem) (v1 : Int32) (v2 : Int32) (v3 : Int32) : Prop :=
 wp_X12_isPerson (fun r1 M2 =>
  (¬ r1 = 0 →
   wp_X12_in (fun r3 M4 =>
    (r3 = 0 →
     Post (-102) M4) ∧
    (¬ r3 = 0 →
     (v3 = 0 →
      wp_X12_night_b41 Post v1 v2 v3 M4) ∧
     (¬ v3 = 0 →
      wp_X12_in (fun r5 M6 =>
       (r5 = 0 →
        Post (-102) M6) ∧
       (¬ r5 = 0 →
        wp_X12_night_b41 Post v1 v2 v3 M6)) M4 (v3.toInt64) (10 : Int64) (13 : Int64)))) M2 (v2.toInt64) (0 : Int64) (4 : Int64)) ∧
  (r1 = 0 →
   Post (-101) M2)) M v1
theorem k_X12_night_b41 {E : Ek} {x : MC} (X : Cx E x cX12_night 4 RX12 6) {Post : Int32 → Mem → Prop} (hQ : QI E x Post (some .int)) {v1 : Int32} {v2 : Int32} {v3 : Int32} {M : Mem} (h : wp_X12_night_b41 Post v1 v2 v3 M ) : G E x M 41 [(0, .ref (ad E 29)), (1, .int v1), (2, .int v2), (3, .int v3)] [] := by
  refine g_aload_n X dX12_night_41 rfl 0 rfl ?_
  refine g_iload_n X dX12_night_42 rfl 1 rfl ?_
  refine g_iload_n X dX12_night_43 rfl 2 rfl ?_
  refine g_iload_n X dX12_night_44 rfl 3 rfl ?_
  refine cl_X12_264 X (by decide) (Nat.le_of_ble_eq_true rfl) dX12_night_45 h (fun r7 M8 h => ?_)
  refine g_goto (tgt := 53) X dX12_night_48 (by decide) ?_
  exact g_iret X hQ dX12_night_53 h
theorem w_X12_night (E : Ek) (l : Launch) {v1 : Int32} {v2 : Int32} {v3 : Int32} {M : Mem} {Post : Int32 → Mem → Prop} (h : wp_X12_night Post M v1 v2 v3) : ctI E l yX12_night cX12_night 4 (some .int) 6 [.ref (ad E 29), .int v1, .int v2, .int v3] M Post := by
  refine ct_of (by decide) (Nat.le_of_ble_eq_true rfl) (fun x X hQ => ?_)
  change G E x M 0 [(0, .ref (ad E 29)), (1, .int v1), (2, .int v2), (3, .int v3)] []
  refine g_aload_n X dX12_night_0 rfl 0 rfl ?_
  refine g_iload_n X dX12_night_1 rfl 1 rfl ?_
  refine cl_X12_215 X (by decide) (Nat.le_of_ble_eq_true rfl) dX12_night_2 h (fun r1 M2 h => ?_)
  refine g_ifne (tgt := 11) X dX12_night_5 (by decide) h (fun h => ?_) (fun h => ?_)
  · refine g_iload_n X dX12_night_11 rfl 2 rfl ?_
    refine g_i2l X dX12_night_12 ?_
    refine g_lconst (v := 0) X dX12_night_13 (by decide) ?_
    refine g_ldc2 X dX12_night_14 m634 ?_
    refine cl_X12_103 X (by decide) (Nat.le_of_ble_eq_true rfl) dX12_night_17 h (fun r3 M4 h => ?_)
    refine g_ifeq (tgt := 51) X dX12_night_20 (by decide) h (fun h => ?_) (fun h => ?_)
    · refine g_bipush (v := (-102)) X dX12_night_51 (by decide) ?_
      exact g_iret X hQ dX12_night_53 h
    · refine g_iload_n X dX12_night_23 rfl 3 rfl ?_
      refine g_ifeq (tgt := 41) X dX12_night_24 (by decide) h (fun h => ?_) (fun h => ?_)
      · exact (k_X12_night_b41 X hQ  h)
      · refine g_iload_n X dX12_night_27 rfl 3 rfl ?_
        refine g_i2l X dX12_night_28 ?_
        refine g_ldc2 X dX12_night_29 m670 ?_
        refine g_ldc2 X dX12_night_32 m685 ?_
        refine cl_X12_103 X (by decide) (Nat.le_of_ble_eq_true rfl) dX12_night_35 h (fun r5 M6 h => ?_)
        refine g_ifeq (tgt := 51) X dX12_night_38 (by decide) h (fun h => ?_) (fun h => ?_)
        · refine g_bipush (v := (-102)) X dX12_night_51 (by decide) ?_
          exact g_iret X hQ dX12_night_53 h
        · exact (k_X12_night_b41 X hQ  h)
  · refine g_bipush (v := (-101)) X dX12_night_8 (by decide) ?_
    exact g_iret X hQ dX12_night_10 h
