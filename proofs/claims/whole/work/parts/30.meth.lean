theorem cw_X12_pressOf : CW yX12_pressOf cX12_pressOf 9 (some .int) 1 := ⟨m610, m499, Nat.le_of_ble_eq_true rfl, by decide +kernel⟩
def wp_X12_pressOf_b116 (Post : Int32 → Mem → Prop) (v1 : Int32) (P15 : Mem → Int32 → Int32 → Int32 → Int32 → Prop) (P37 : Mem → Int32 → Int32 → Int32 → Int32 → Int32 → Int32 → Int32 → Prop) (M : Mem) (v2 : Int32) (v3 : Int32) (v4 : Int32) (v5 : Int32) (s0 : Int32) : Prop :=
 vp_in v5 4 ∧
 (¬ (rd M 38 v5.toNatClampNeg) = v1 →
  ∀ x5_12 : Int32, x5_12 = v5 + 1 →
  P15 M v2 v3 v4 x5_12) ∧
 ((rd M 38 v5.toNatClampNeg) = v1 →
  (v4 ≤ s0 →
   ∀ x5_13 : Int32, x5_13 = v5 + 1 →
   P15 M v2 v3 v4 x5_13) ∧
  (¬ v4 ≤ s0 →
   ∀ x5_14 : Int32, x5_14 = v5 + 1 →
   P15 M v2 v5 s0 x5_14))
def wp_X12_pressOf_b67 (Post : Int32 → Mem → Prop) (v1 : Int32) (P15 : Mem → Int32 → Int32 → Int32 → Int32 → Prop) (P37 : Mem → Int32 → Int32 → Int32 → Int32 → Int32 → Int32 → Int32 → Prop) (M : Mem) (v2 : Int32) (v3 : Int32) (v4 : Int32) (v5 : Int32) (v7 : Int32) (v8 : Int32) (s0 : Int32) (s1 : Int32) : Prop :=
 ∀ x6_5 : Int32, x6_5 = s0 + s1 →
 wp_X12_costs (fun r6 M7 =>
  (r6 ≤ v8 →
   ∀ x7_8 : Int32, x7_8 = v7 + 0 →
   ∀ x8_9 : Int32, x8_9 = v8 + 1 →
   P37 M7 v2 v3 v4 v5 x6_5 x7_8 x8_9) ∧
  (¬ r6 ≤ v8 →
   ∀ x7_10 : Int32, x7_10 = v7 + ((v2 >>> (v8 &&& 31)) &&& 1) →
   ∀ x8_11 : Int32, x8_11 = v8 + 1 →
   P37 M7 v2 v3 v4 v5 x6_5 x7_10 x8_11)) M v5
def wp_X12_pressOf_b37 (Post : Int32 → Mem → Prop) (v1 : Int32) (P15 : Mem → Int32 → Int32 → Int32 → Int32 → Prop) (P37 : Mem → Int32 → Int32 → Int32 → Int32 → Int32 → Int32 → Int32 → Prop) (M : Mem) (v2 : Int32) (v3 : Int32) (v4 : Int32) (v5 : Int32) (v6 : Int32) (v7 : Int32) (v8 : Int32) : Prop :=
 (10 ≤ v8 →
  (v6 ≤ v7 →
   wp_X12_pressOf_b116 Post v1 P15 P37 M v2 v3 v4 v5 v7) ∧
  (¬ v6 ≤ v7 →
   wp_X12_pressOf_b116 Post v1 P15 P37 M v2 v3 v4 v5 v6)) ∧
 (¬ 10 ≤ v8 →
  wp_X12_costs (fun r3 M4 =>
   (v8 < r3 →
    wp_X12_pressOf_b67 Post v1 P15 P37 M4 v2 v3 v4 v5 v7 v8 v6 0) ∧
   (¬ v8 < r3 →
    wp_X12_pressOf_b67 Post v1 P15 P37 M4 v2 v3 v4 v5 v7 v8 v6 ((v2 >>> (v8 &&& 31)) &&& 1))) M v5)
def wp_X12_pressOf_b15 (Post : Int32 → Mem → Prop) (v1 : Int32) (P15 : Mem → Int32 → Int32 → Int32 → Int32 → Prop) (P37 : Mem → Int32 → Int32 → Int32 → Int32 → Int32 → Int32 → Int32 → Prop) (M : Mem) (v2 : Int32) (v3 : Int32) (v4 : Int32) (v5 : Int32) : Prop :=
 ((rd M 29 7) ≤ v5 →
  Post v3 M) ∧
 (¬ (rd M 29 7) ≤ v5 →
  (v2 = 0 →
   Post v3 M) ∧
  (¬ v2 = 0 →
   P37 M v2 v3 v4 v5 0 0 0))
def wp_X12_pressOf (Post : Int32 → Mem → Prop) (M : Mem) (v1 : Int32) : Prop :=
 ∀ (P15 : Mem → Int32 → Int32 → Int32 → Int32 → Prop) (P37 : Mem → Int32 → Int32 → Int32 → Int32 → Int32 → Int32 → Int32 → Prop) ,
  (∀ (M : Mem) (v2 : Int32) (v3 : Int32) (v4 : Int32) (v5 : Int32), wp_X12_pressOf_b15 Post v1 P15 P37 M v2 v3 v4 v5 → P15 M v2 v3 v4 v5) →
  (∀ (M : Mem) (v2 : Int32) (v3 : Int32) (v4 : Int32) (v5 : Int32) (v6 : Int32) (v7 : Int32) (v8 : Int32), wp_X12_pressOf_b37 Post v1 P15 P37 M v2 v3 v4 v5 v6 v7 v8 → P37 M v2 v3 v4 v5 v6 v7 v8) →
 wp_X12_pursesOf (fun r1 M2 =>
  P15 M2 r1 (-1) 11 0) M v1
theorem k_X12_pressOf_b116 {E : Ek} {x : MC} (X : Cx E x cX12_pressOf 9 RX12 3) {Post : Int32 → Mem → Prop} (hQ : QI E x Post (some .int)) {v1 : Int32} {M : Mem} {v2 : Int32} {v3 : Int32} {v4 : Int32} {v5 : Int32} {s0 : Int32} (h : wp_X12_pressOf_b116 Post v1 (fun M v2 v3 v4 v5 => G E x M 15 [(0, .ref (ad E 29)), (1, .int v1), (2, .int v2), (3, .int v3), (4, .int v4), (5, .int v5)] []) (fun M v2 v3 v4 v5 v6 v7 v8 => G E x M 37 [(0, .ref (ad E 29)), (1, .int v1), (2, .int v2), (3, .int v3), (4, .int v4), (5, .int v5), (6, .int v6), (7, .int v7), (8, .int v8)] []) M v2 v3 v4 v5 s0) : G E x M 116 [(0, .ref (ad E 29)), (1, .int v1), (2, .int v2), (3, .int v3), (4, .int v4), (5, .int v5)] [.int s0] := by
  refine g_istore (lv' := [(0, .ref (ad E 29)), (1, .int v1), (2, .int v2), (3, .int v3), (4, .int v4), (5, .int v5), (8, .int s0)]) X dX12_pressOf_116 (Nat.le_of_ble_eq_true rfl) rfl rfl ?_
  refine g_aload_n X dX12_pressOf_118 rfl 0 rfl ?_
  refine fg_X12_34 X dX12_pressOf_119 ?_
  refine g_iload X dX12_pressOf_122 5 rfl ?_
  refine g_iald X ia_38 dX12_pressOf_124 h (fun h => ?_)
  refine g_iload_n X dX12_pressOf_125 rfl 1 rfl ?_
  refine g_icmpne (tgt := 143) X dX12_pressOf_126 (by decide) h (fun h => ?_) (fun h => ?_)
  · refine g_iinc (w := 1) X dX12_pressOf_143 5 rfl (by decide) (Nat.le_of_ble_eq_true rfl) rfl (fun x5_12 => [(0, .ref (ad E 29)), (1, .int v1), (2, .int v2), (3, .int v3), (4, .int v4), (5, .int x5_12), (8, .int s0)]) (fun _ => rfl) h (fun x5_12 h => ?_)
    refine g_goto (tgt := 15) X dX12_pressOf_146 (by decide) ?_
    exact g_sub [0, 1, 2, 3, 4, 5] rfl h
  · refine g_iload X dX12_pressOf_129 6 rfl ?_
    refine g_iload X dX12_pressOf_131 4 rfl ?_
    refine g_icmpge (tgt := 143) X dX12_pressOf_133 (by decide) h (fun h => ?_) (fun h => ?_)
    · refine g_iinc (w := 1) X dX12_pressOf_143 5 rfl (by decide) (Nat.le_of_ble_eq_true rfl) rfl (fun x5_13 => [(0, .ref (ad E 29)), (1, .int v1), (2, .int v2), (3, .int v3), (4, .int v4), (5, .int x5_13), (8, .int s0)]) (fun _ => rfl) h (fun x5_13 h => ?_)
      refine g_goto (tgt := 15) X dX12_pressOf_146 (by decide) ?_
      exact g_sub [0, 1, 2, 3, 4, 5] rfl h
    · refine g_iload X dX12_pressOf_136 5 rfl ?_
      refine g_istore_n (lv' := [(0, .ref (ad E 29)), (1, .int v1), (2, .int v2), (3, .int v5), (4, .int v4), (5, .int v5), (8, .int s0)]) X dX12_pressOf_138 rfl (Nat.le_of_ble_eq_true rfl) rfl rfl ?_
      refine g_iload X dX12_pressOf_139 6 rfl ?_
      refine g_istore (lv' := [(0, .ref (ad E 29)), (1, .int v1), (2, .int v2), (3, .int v5), (4, .int s0), (5, .int v5), (8, .int s0)]) X dX12_pressOf_141 (Nat.le_of_ble_eq_true rfl) rfl rfl ?_
      refine g_iinc (w := 1) X dX12_pressOf_143 5 rfl (by decide) (Nat.le_of_ble_eq_true rfl) rfl (fun x5_14 => [(0, .ref (ad E 29)), (1, .int v1), (2, .int v2), (3, .int v5), (4, .int s0), (5, .int x5_14), (8, .int s0)]) (fun _ => rfl) h (fun x5_14 h => ?_)
      refine g_goto (tgt := 15) X dX12_pressOf_146 (by decide) ?_
      exact g_sub [0, 1, 2, 3, 4, 5] rfl h
theorem k_X12_pressOf_b67 {E : Ek} {x : MC} (X : Cx E x cX12_pressOf 9 RX12 3) {Post : Int32 → Mem → Prop} (hQ : QI E x Post (some .int)) {v1 : Int32} {M : Mem} {v2 : Int32} {v3 : Int32} {v4 : Int32} {v5 : Int32} {v7 : Int32} {v8 : Int32} {s0 : Int32} {s1 : Int32} (h : wp_X12_pressOf_b67 Post v1 (fun M v2 v3 v4 v5 => G E x M 15 [(0, .ref (ad E 29)), (1, .int v1), (2, .int v2), (3, .int v3), (4, .int v4), (5, .int v5)] []) (fun M v2 v3 v4 v5 v6 v7 v8 => G E x M 37 [(0, .ref (ad E 29)), (1, .int v1), (2, .int v2), (3, .int v3), (4, .int v4), (5, .int v5), (6, .int v6), (7, .int v7), (8, .int v8)] []) M v2 v3 v4 v5 v7 v8 s0 s1) : G E x M 67 [(0, .ref (ad E 29)), (1, .int v1), (2, .int v2), (3, .int v3), (4, .int v4), (5, .int v5), (7, .int v7), (8, .int v8)] [.int s1, .int s0] := by
  refine g_iadd X dX12_pressOf_67 ?_
  refine g_nm h (fun x6_5 h => ?_)
  refine g_istore (lv' := [(0, .ref (ad E 29)), (1, .int v1), (2, .int v2), (3, .int v3), (4, .int v4), (5, .int v5), (6, .int x6_5), (7, .int v7), (8, .int v8)]) X dX12_pressOf_68 (Nat.le_of_ble_eq_true rfl) rfl rfl ?_
  refine g_iload X dX12_pressOf_70 7 rfl ?_
  refine g_iload X dX12_pressOf_72 8 rfl ?_
  refine g_aload_n X dX12_pressOf_74 rfl 0 rfl ?_
  refine g_iload X dX12_pressOf_75 5 rfl ?_
  refine cl_X12_184 X (by decide) (Nat.le_of_ble_eq_true rfl) dX12_pressOf_77 h (fun r6 M7 h => ?_)
  refine g_icmpge (tgt := 92) X dX12_pressOf_80 (by decide) h (fun h => ?_) (fun h => ?_)
  · refine g_iconst (v := 0) X dX12_pressOf_92 (by decide) ?_
    refine g_iadd X dX12_pressOf_93 ?_
    refine g_nm h (fun x7_8 h => ?_)
    refine g_istore (lv' := [(0, .ref (ad E 29)), (1, .int v1), (2, .int v2), (3, .int v3), (4, .int v4), (5, .int v5), (6, .int x6_5), (7, .int x7_8), (8, .int v8)]) X dX12_pressOf_94 (Nat.le_of_ble_eq_true rfl) rfl rfl ?_
    refine g_iinc (w := 1) X dX12_pressOf_96 8 rfl (by decide) (Nat.le_of_ble_eq_true rfl) rfl (fun x8_9 => [(0, .ref (ad E 29)), (1, .int v1), (2, .int v2), (3, .int v3), (4, .int v4), (5, .int v5), (6, .int x6_5), (7, .int x7_8), (8, .int x8_9)]) (fun _ => rfl) h (fun x8_9 h => ?_)
    refine g_goto (tgt := 37) X dX12_pressOf_99 (by decide) ?_
    exact h
  · refine g_iload_n X dX12_pressOf_83 rfl 2 rfl ?_
    refine g_iload X dX12_pressOf_84 8 rfl ?_
    refine g_ishr X dX12_pressOf_86 ?_
    refine g_iconst (v := 1) X dX12_pressOf_87 (by decide) ?_
    refine g_iand X dX12_pressOf_88 ?_
    refine g_goto (tgt := 93) X dX12_pressOf_89 (by decide) ?_
    refine g_iadd X dX12_pressOf_93 ?_
    refine g_nm h (fun x7_10 h => ?_)
    refine g_istore (lv' := [(0, .ref (ad E 29)), (1, .int v1), (2, .int v2), (3, .int v3), (4, .int v4), (5, .int v5), (6, .int x6_5), (7, .int x7_10), (8, .int v8)]) X dX12_pressOf_94 (Nat.le_of_ble_eq_true rfl) rfl rfl ?_
    refine g_iinc (w := 1) X dX12_pressOf_96 8 rfl (by decide) (Nat.le_of_ble_eq_true rfl) rfl (fun x8_11 => [(0, .ref (ad E 29)), (1, .int v1), (2, .int v2), (3, .int v3), (4, .int v4), (5, .int v5), (6, .int x6_5), (7, .int x7_10), (8, .int x8_11)]) (fun _ => rfl) h (fun x8_11 h => ?_)
    refine g_goto (tgt := 37) X dX12_pressOf_99 (by decide) ?_
    exact h
theorem k_X12_pressOf_b37 {E : Ek} {x : MC} (X : Cx E x cX12_pressOf 9 RX12 3) {Post : Int32 → Mem → Prop} (hQ : QI E x Post (some .int)) {v1 : Int32} {M : Mem} {v2 : Int32} {v3 : Int32} {v4 : Int32} {v5 : Int32} {v6 : Int32} {v7 : Int32} {v8 : Int32} (h : wp_X12_pressOf_b37 Post v1 (fun M v2 v3 v4 v5 => G E x M 15 [(0, .ref (ad E 29)), (1, .int v1), (2, .int v2), (3, .int v3), (4, .int v4), (5, .int v5)] []) (fun M v2 v3 v4 v5 v6 v7 v8 => G E x M 37 [(0, .ref (ad E 29)), (1, .int v1), (2, .int v2), (3, .int v3), (4, .int v4), (5, .int v5), (6, .int v6), (7, .int v7), (8, .int v8)] []) M v2 v3 v4 v5 v6 v7 v8) : G E x M 37 [(0, .ref (ad E 29)), (1, .int v1), (2, .int v2), (3, .int v3), (4, .int v4), (5, .int v5), (6, .int v6), (7, .int v7), (8, .int v8)] [] := by
  refine g_iload X dX12_pressOf_37 8 rfl ?_
  refine g_bipush (v := 10) X dX12_pressOf_39 (by decide) ?_
  refine g_icmpge (tgt := 102) X dX12_pressOf_41 (by decide) h (fun h => ?_) (fun h => ?_)
  · refine g_iload X dX12_pressOf_102 6 rfl ?_
    refine g_iload X dX12_pressOf_104 7 rfl ?_
    refine g_icmple (tgt := 114) X dX12_pressOf_106 (by decide) h (fun h => ?_) (fun h => ?_)
    · refine g_iload X dX12_pressOf_114 7 rfl ?_
      exact g_sub [0, 1, 2, 3, 4, 5] rfl (k_X12_pressOf_b116 X hQ  h)
    · refine g_iload X dX12_pressOf_109 6 rfl ?_
      refine g_goto (tgt := 116) X dX12_pressOf_111 (by decide) ?_
      exact g_sub [0, 1, 2, 3, 4, 5] rfl (k_X12_pressOf_b116 X hQ  h)
  · refine g_iload X dX12_pressOf_44 6 rfl ?_
    refine g_iload X dX12_pressOf_46 8 rfl ?_
    refine g_aload_n X dX12_pressOf_48 rfl 0 rfl ?_
    refine g_iload X dX12_pressOf_49 5 rfl ?_
    refine cl_X12_184 X (by decide) (Nat.le_of_ble_eq_true rfl) dX12_pressOf_51 h (fun r3 M4 h => ?_)
    refine g_icmplt (tgt := 66) X dX12_pressOf_54 (by decide) h (fun h => ?_) (fun h => ?_)
    · refine g_iconst (v := 0) X dX12_pressOf_66 (by decide) ?_
      exact g_sub [0, 1, 2, 3, 4, 5, 7, 8] rfl (k_X12_pressOf_b67 X hQ  h)
    · refine g_iload_n X dX12_pressOf_57 rfl 2 rfl ?_
      refine g_iload X dX12_pressOf_58 8 rfl ?_
      refine g_ishr X dX12_pressOf_60 ?_
      refine g_iconst (v := 1) X dX12_pressOf_61 (by decide) ?_
      refine g_iand X dX12_pressOf_62 ?_
      refine g_goto (tgt := 67) X dX12_pressOf_63 (by decide) ?_
      exact g_sub [0, 1, 2, 3, 4, 5, 7, 8] rfl (k_X12_pressOf_b67 X hQ  h)
theorem k_X12_pressOf_b15 {E : Ek} {x : MC} (X : Cx E x cX12_pressOf 9 RX12 3) {Post : Int32 → Mem → Prop} (hQ : QI E x Post (some .int)) {v1 : Int32} {M : Mem} {v2 : Int32} {v3 : Int32} {v4 : Int32} {v5 : Int32} (h : wp_X12_pressOf_b15 Post v1 (fun M v2 v3 v4 v5 => G E x M 15 [(0, .ref (ad E 29)), (1, .int v1), (2, .int v2), (3, .int v3), (4, .int v4), (5, .int v5)] []) (fun M v2 v3 v4 v5 v6 v7 v8 => G E x M 37 [(0, .ref (ad E 29)), (1, .int v1), (2, .int v2), (3, .int v3), (4, .int v4), (5, .int v5), (6, .int v6), (7, .int v7), (8, .int v8)] []) M v2 v3 v4 v5) : G E x M 15 [(0, .ref (ad E 29)), (1, .int v1), (2, .int v2), (3, .int v3), (4, .int v4), (5, .int v5)] [] := by
  refine g_iload X dX12_pressOf_15 5 rfl ?_
  refine g_aload_n X dX12_pressOf_17 rfl 0 rfl ?_
  refine fg_X12_162 X dX12_pressOf_18 ?_
  refine g_icmpge (tgt := 149) X dX12_pressOf_21 (by decide) h (fun h => ?_) (fun h => ?_)
  · refine g_iload_n X dX12_pressOf_149 rfl 3 rfl ?_
    exact g_iret X hQ dX12_pressOf_150 h
  · refine g_iload_n X dX12_pressOf_24 rfl 2 rfl ?_
    refine g_ifeq (tgt := 149) X dX12_pressOf_25 (by decide) h (fun h => ?_) (fun h => ?_)
    · refine g_iload_n X dX12_pressOf_149 rfl 3 rfl ?_
      exact g_iret X hQ dX12_pressOf_150 h
    · refine g_iconst (v := 0) X dX12_pressOf_28 (by decide) ?_
      refine g_istore (lv' := [(0, .ref (ad E 29)), (1, .int v1), (2, .int v2), (3, .int v3), (4, .int v4), (5, .int v5), (6, .int 0)]) X dX12_pressOf_29 (Nat.le_of_ble_eq_true rfl) rfl rfl ?_
      refine g_iconst (v := 0) X dX12_pressOf_31 (by decide) ?_
      refine g_istore (lv' := [(0, .ref (ad E 29)), (1, .int v1), (2, .int v2), (3, .int v3), (4, .int v4), (5, .int v5), (6, .int 0), (7, .int 0)]) X dX12_pressOf_32 (Nat.le_of_ble_eq_true rfl) rfl rfl ?_
      refine g_iconst (v := 0) X dX12_pressOf_34 (by decide) ?_
      refine g_istore (lv' := [(0, .ref (ad E 29)), (1, .int v1), (2, .int v2), (3, .int v3), (4, .int v4), (5, .int v5), (6, .int 0), (7, .int 0), (8, .int 0)]) X dX12_pressOf_35 (Nat.le_of_ble_eq_true rfl) rfl rfl ?_
      exact h
theorem w_X12_pressOf (E : Ek) (l : Launch) {v1 : Int32} {M : Mem} {Post : Int32 → Mem → Prop} (h : wp_X12_pressOf Post M v1) : ctI E l yX12_pressOf cX12_pressOf 9 (some .int) 3 [.ref (ad E 29), .int v1] M Post := by
  refine ct_of (by decide) (Nat.le_of_ble_eq_true rfl) (fun x X hQ => ?_)
  have h := h (fun M v2 v3 v4 v5 => G E x M 15 [(0, .ref (ad E 29)), (1, .int v1), (2, .int v2), (3, .int v3), (4, .int v4), (5, .int v5)] []) (fun M v2 v3 v4 v5 v6 v7 v8 => G E x M 37 [(0, .ref (ad E 29)), (1, .int v1), (2, .int v2), (3, .int v3), (4, .int v4), (5, .int v5), (6, .int v6), (7, .int v7), (8, .int v8)] []) (fun M v2 v3 v4 v5 h => k_X12_pressOf_b15 X hQ  h) (fun M v2 v3 v4 v5 v6 v7 v8 h => k_X12_pressOf_b37 X hQ  h)
  change G E x M 0 [(0, .ref (ad E 29)), (1, .int v1)] []
  refine g_aload_n X dX12_pressOf_0 rfl 0 rfl ?_
  refine g_iload_n X dX12_pressOf_1 rfl 1 rfl ?_
  refine cl_X12_209 X (by decide) (Nat.le_of_ble_eq_true rfl) dX12_pressOf_2 h (fun r1 M2 h => ?_)
  refine g_istore_n (lv' := [(0, .ref (ad E 29)), (1, .int v1), (2, .int r1)]) X dX12_pressOf_5 rfl (Nat.le_of_ble_eq_true rfl) rfl rfl ?_
  refine g_iconst (v := (-1)) X dX12_pressOf_6 (by decide) ?_
  refine g_istore_n (lv' := [(0, .ref (ad E 29)), (1, .int v1), (2, .int r1), (3, .int (-1))]) X dX12_pressOf_7 rfl (Nat.le_of_ble_eq_true rfl) rfl rfl ?_
  refine g_bipush (v := 11) X dX12_pressOf_8 (by decide) ?_
  refine g_istore (lv' := [(0, .ref (ad E 29)), (1, .int v1), (2, .int r1), (3, .int (-1)), (4, .int 11)]) X dX12_pressOf_10 (Nat.le_of_ble_eq_true rfl) rfl rfl ?_
  refine g_iconst (v := 0) X dX12_pressOf_12 (by decide) ?_
  refine g_istore (lv' := [(0, .ref (ad E 29)), (1, .int v1), (2, .int r1), (3, .int (-1)), (4, .int 11), (5, .int 0)]) X dX12_pressOf_13 (Nat.le_of_ble_eq_true rfl) rfl rfl ?_
  exact h
theorem cl_X12_212 {E : Ek} {x : MC} {cc : ByteArray} {nL hm pc : Nat} {M : Mem} {lv : List (Nat × Value)} {st : List Value} (X : Cx E x cc nL RX12 hm) {v1 : Int32} {Post : Int32 → Mem → Prop} (hr : 3 < hm) (hW : (st.map fun v => v.category).sum ≤ 8) (hd : decode cc pc = .ok (.invokevirtual 212, 3)) (h : wp_X12_pressOf Post M v1) (kk : ∀ r M1, Post r M1 → G E x M1 (pc + 3) lv (.int r :: st)) : G E x M pc lv (.int v1 :: .ref (ad E 29) :: st) := k_I (fun hP hS hL => run_V X (w_X12_pressOf E (xl x)  h) cw_X12_pressOf m623 m624 m625 (⟨by decide, fun E f h => ⟨_, _, _, rfl, rfl, rfl⟩⟩ : OC 29 RX12) hr rfl hd hW hP hS hL) kk
theorem cw_X12_tellPerson : CW yX12_tellPerson cX12_tellPerson 3 (some .int) 2 := ⟨m626, m499, Nat.le_of_ble_eq_true rfl, by decide +kernel⟩
def wp_X12_tellPerson (Post : Int32 → Mem → Prop) (M : Mem) (v1 : Int32) (v2 : Int32) : Prop :=
 (v2 = 0 →
  vp_in v1 4 ∧
  Post (rd M 34 v1.toNatClampNeg) M) ∧
 (v2 = 1 →
  vp_in v1 4 ∧
  Post (rd M 35 v1.toNatClampNeg) M) ∧
 (v2 = 2 →
  vp_in v1 4 ∧
  Post (rd M 36 v1.toNatClampNeg) M) ∧
 (v2 = 3 →
  wp_X12_keysOf (fun r1 M2 =>
   Post r1 M2) M v1) ∧
 (v2 = 4 →
  wp_X12_doorsOf (fun r3 M4 =>
   Post r3 M4) M v1) ∧
 (v2 = 5 →
  wp_X12_mayPay (fun r5 M6 =>
   Post r5 M6) M v1) ∧
 (v2 = 6 →
  wp_X12_standing (fun r7 M8 =>
   Post r7 M8) M v1) ∧
 (v2 = 7 →
  wp_X12_pursesOf (fun r9 M10 =>
   Post r9 M10) M v1) ∧
 (v2 = 8 →
  wp_X12_pressOf (fun r11 M12 =>
   Post r11 M12) M v1) ∧
 (¬ v2 = 0 → ¬ v2 = 1 → ¬ v2 = 2 → ¬ v2 = 3 → ¬ v2 = 4 → ¬ v2 = 5 → ¬ v2 = 6 → ¬ v2 = 7 → ¬ v2 = 8 → 
  Post (-102) M)
theorem w_X12_tellPerson (E : Ek) (l : Launch) {v1 : Int32} {v2 : Int32} {M : Mem} {Post : Int32 → Mem → Prop} (h : wp_X12_tellPerson Post M v1 v2) : ctI E l yX12_tellPerson cX12_tellPerson 3 (some .int) 4 [.ref (ad E 29), .int v1, .int v2] M Post := by
  refine ct_of (by decide) (Nat.le_of_ble_eq_true rfl) (fun x X hQ => ?_)
  change G E x M 0 [(0, .ref (ad E 29)), (1, .int v1), (2, .int v2)] []
  refine g_iload_n X dX12_tellPerson_0 rfl 2 rfl ?_
  by_cases c0 : v2 = 0
  · have h := h.1 c0
    refine g_tabI (tgt := 52) X dX12_tellPerson_1 c0 ⟨⟨by decide, by decide⟩, rfl⟩ (by decide) ?_
    refine g_aload_n X dX12_tellPerson_52 rfl 0 rfl ?_
    refine fg_X12_22 X dX12_tellPerson_53 ?_
    refine g_iload_n X dX12_tellPerson_56 rfl 1 rfl ?_
    refine g_iald X ia_34 dX12_tellPerson_57 h (fun h => ?_)
    exact g_iret X hQ dX12_tellPerson_58 h
  by_cases c1 : v2 = 1
  · have h := h.2.1 c1
    refine g_tabI (tgt := 59) X dX12_tellPerson_1 c1 ⟨⟨by decide, by decide⟩, rfl⟩ (by decide) ?_
    refine g_aload_n X dX12_tellPerson_59 rfl 0 rfl ?_
    refine fg_X12_25 X dX12_tellPerson_60 ?_
    refine g_iload_n X dX12_tellPerson_63 rfl 1 rfl ?_
    refine g_iald X ia_35 dX12_tellPerson_64 h (fun h => ?_)
    exact g_iret X hQ dX12_tellPerson_65 h
  by_cases c2 : v2 = 2
  · have h := h.2.2.1 c2
    refine g_tabI (tgt := 66) X dX12_tellPerson_1 c2 ⟨⟨by decide, by decide⟩, rfl⟩ (by decide) ?_
    refine g_aload_n X dX12_tellPerson_66 rfl 0 rfl ?_
    refine fg_X12_28 X dX12_tellPerson_67 ?_
    refine g_iload_n X dX12_tellPerson_70 rfl 1 rfl ?_
    refine g_iald X ia_36 dX12_tellPerson_71 h (fun h => ?_)
    exact g_iret X hQ dX12_tellPerson_72 h
  by_cases c3 : v2 = 3
  · have h := h.2.2.2.1 c3
    refine g_tabI (tgt := 73) X dX12_tellPerson_1 c3 ⟨⟨by decide, by decide⟩, rfl⟩ (by decide) ?_
    refine g_aload_n X dX12_tellPerson_73 rfl 0 rfl ?_
    refine g_iload_n X dX12_tellPerson_74 rfl 1 rfl ?_
    refine cl_X12_197 X (by decide) (Nat.le_of_ble_eq_true rfl) dX12_tellPerson_75 h (fun r1 M2 h => ?_)
    exact g_iret X hQ dX12_tellPerson_78 h
  by_cases c4 : v2 = 4
  · have h := h.2.2.2.2.1 c4
    refine g_tabI (tgt := 79) X dX12_tellPerson_1 c4 ⟨⟨by decide, by decide⟩, rfl⟩ (by decide) ?_
    refine g_aload_n X dX12_tellPerson_79 rfl 0 rfl ?_
    refine g_iload_n X dX12_tellPerson_80 rfl 1 rfl ?_
    refine cl_X12_200 X (by decide) (Nat.le_of_ble_eq_true rfl) dX12_tellPerson_81 h (fun r3 M4 h => ?_)
    exact g_iret X hQ dX12_tellPerson_84 h
  by_cases c5 : v2 = 5
  · have h := h.2.2.2.2.2.1 c5
    refine g_tabI (tgt := 85) X dX12_tellPerson_1 c5 ⟨⟨by decide, by decide⟩, rfl⟩ (by decide) ?_
    refine g_aload_n X dX12_tellPerson_85 rfl 0 rfl ?_
    refine g_iload_n X dX12_tellPerson_86 rfl 1 rfl ?_
    refine cl_X12_203 X (by decide) (Nat.le_of_ble_eq_true rfl) dX12_tellPerson_87 h (fun r5 M6 h => ?_)
    exact g_iret X hQ dX12_tellPerson_90 h
  by_cases c6 : v2 = 6
  · have h := h.2.2.2.2.2.2.1 c6
    refine g_tabI (tgt := 91) X dX12_tellPerson_1 c6 ⟨⟨by decide, by decide⟩, rfl⟩ (by decide) ?_
    refine g_aload_n X dX12_tellPerson_91 rfl 0 rfl ?_
    refine g_iload_n X dX12_tellPerson_92 rfl 1 rfl ?_
    refine cl_X12_206 X (by decide) (Nat.le_of_ble_eq_true rfl) dX12_tellPerson_93 h (fun r7 M8 h => ?_)
    exact g_iret X hQ dX12_tellPerson_96 h
  by_cases c7 : v2 = 7
  · have h := h.2.2.2.2.2.2.2.1 c7
    refine g_tabI (tgt := 97) X dX12_tellPerson_1 c7 ⟨⟨by decide, by decide⟩, rfl⟩ (by decide) ?_
    refine g_aload_n X dX12_tellPerson_97 rfl 0 rfl ?_
    refine g_iload_n X dX12_tellPerson_98 rfl 1 rfl ?_
    refine cl_X12_209 X (by decide) (Nat.le_of_ble_eq_true rfl) dX12_tellPerson_99 h (fun r9 M10 h => ?_)
    exact g_iret X hQ dX12_tellPerson_102 h
  by_cases c8 : v2 = 8
  · have h := h.2.2.2.2.2.2.2.2.1 c8
    refine g_tabI (tgt := 103) X dX12_tellPerson_1 c8 ⟨⟨by decide, by decide⟩, rfl⟩ (by decide) ?_
    refine g_aload_n X dX12_tellPerson_103 rfl 0 rfl ?_
    refine g_iload_n X dX12_tellPerson_104 rfl 1 rfl ?_
    refine cl_X12_212 X (by decide) (Nat.le_of_ble_eq_true rfl) dX12_tellPerson_105 h (fun r11 M12 h => ?_)
    exact g_iret X hQ dX12_tellPerson_108 h
  have h := h.2.2.2.2.2.2.2.2.2 c0 c1 c2 c3 c4 c5 c6 c7 c8
  refine g_tabO (tgt := 109) X dX12_tellPerson_1 (by have e0 := lv_neT (a := 0) c0 (by decide); have e1 := lv_neT (a := 1) c1 (by decide); have e2 := lv_neT (a := 2) c2 (by decide); have e3 := lv_neT (a := 3) c3 (by decide); have e4 := lv_neT (a := 4) c4 (by decide); have e5 := lv_neT (a := 5) c5 (by decide); have e6 := lv_neT (a := 6) c6 (by decide); have e7 := lv_neT (a := 7) c7 (by decide); have e8 := lv_neT (a := 8) c8 (by decide); omega) (by decide) ?_
  refine g_bipush (v := (-102)) X dX12_tellPerson_109 (by decide) ?_
  exact g_iret X hQ dX12_tellPerson_111 h
theorem cl_X12_218 {E : Ek} {x : MC} {cc : ByteArray} {nL hm pc : Nat} {M : Mem} {lv : List (Nat × Value)} {st : List Value} (X : Cx E x cc nL RX12 hm) {v1 : Int32} {v2 : Int32} {Post : Int32 → Mem → Prop} (hr : 4 < hm) (hW : (st.map fun v => v.category).sum ≤ 8) (hd : decode cc pc = .ok (.invokevirtual 218, 3)) (h : wp_X12_tellPerson Post M v1 v2) (kk : ∀ r M1, Post r M1 → G E x M1 (pc + 3) lv (.int r :: st)) : G E x M pc lv (.int v2 :: .int v1 :: .ref (ad E 29) :: st) := k_I (fun hP hS hL => run_V X (w_X12_tellPerson E (xl x)  h) cw_X12_tellPerson m630 m631 m632 (⟨by decide, fun E f h => ⟨_, _, _, rfl, rfl, rfl⟩⟩ : OC 29 RX12) hr rfl hd hW hP hS hL) kk
theorem cw_X12_person : CW yX12_person cX12_person 3 (some .int) 2 := ⟨m633, m499, Nat.le_of_ble_eq_true rfl, by decide +kernel⟩
def wp_X12_person (Post : Int32 → Mem → Prop) (M : Mem) (v1 : Int32) (v2 : Int32) : Prop :=
 wp_X12_isPerson (fun r1 M2 =>
  (r1 = 0 →
   Post (-101) M2) ∧
  (¬ r1 = 0 →
   wp_X12_tellPerson (fun r3 M4 =>
    Post r3 M4) M2 v1 v2)) M v1
theorem w_X12_person (E : Ek) (l : Launch) {v1 : Int32} {v2 : Int32} {M : Mem} {Post : Int32 → Mem → Prop} (h : wp_X12_person Post M v1 v2) : ctI E l yX12_person cX12_person 3 (some .int) 5 [.ref (ad E 29), .int v1, .int v2] M Post := by
  refine ct_of (by decide) (Nat.le_of_ble_eq_true rfl) (fun x X hQ => ?_)
  change G E x M 0 [(0, .ref (ad E 29)), (1, .int v1), (2, .int v2)] []
  refine g_aload_n X dX12_person_0 rfl 0 rfl ?_
  refine g_iload_n X dX12_person_1 rfl 1 rfl ?_
  refine cl_X12_215 X (by decide) (Nat.le_of_ble_eq_true rfl) dX12_person_2 h (fun r1 M2 h => ?_)
  refine g_ifeq (tgt := 17) X dX12_person_5 (by decide) h (fun h => ?_) (fun h => ?_)
  · refine g_bipush (v := (-101)) X dX12_person_17 (by decide) ?_
    exact g_iret X hQ dX12_person_19 h
  · refine g_aload_n X dX12_person_8 rfl 0 rfl ?_
    refine g_iload_n X dX12_person_9 rfl 1 rfl ?_
    refine g_iload_n X dX12_person_10 rfl 2 rfl ?_
    refine cl_X12_218 X (by decide) (Nat.le_of_ble_eq_true rfl) dX12_person_11 h (fun r3 M4 h => ?_)
    refine g_goto (tgt := 19) X dX12_person_14 (by decide) ?_
    exact g_iret X hQ dX12_person_19 h
theorem cw_X12_as : CW yX12_as cX12_as 4 (some .int) 2 := ⟨m635, m499, Nat.le_of_ble_eq_true rfl, by decide +kernel⟩
def wp_X12_as_b60 (Post : Int32 → Mem → Prop) (v1 : Int32) (v2 : Int32) (M : Mem) (s0 : Int32) : Prop :=
 (s0 = 0 →
  Post (-1) M) ∧
 (¬ s0 = 0 →
  Post v1 M)
def wp_X12_as_b59 (Post : Int32 → Mem → Prop) (v1 : Int32) (v2 : Int32) (M : Mem) : Prop :=
 wp_X12_as_b60 Post v1 v2 M 0
def wp_X12_as_b55 (Post : Int32 → Mem → Prop) (v1 : Int32) (v2 : Int32) (M : Mem) : Prop :=
 wp_X12_as_b60 Post v1 v2 M 1
def wp_X12_as (Post : Int32 → Mem → Prop) (M : Mem) (v1 : Int32) (v2 : Int32) : Prop :=
 wp_X12_isPerson (fun r1 M2 =>
  (¬ r1 = 0 →
   wp_X12_in (fun r3 M4 =>
    (¬ r3 = 0 →
     (v2 = 0 →
      wp_X12_as_b55 Post v1 v2 M4) ∧
     (¬ v2 = 0 →
      vp_in v1 4 ∧
      (v2 = (rd M4 34 v1.toNatClampNeg) →
       wp_X12_as_b55 Post v1 v2 M4) ∧
      (¬ v2 = (rd M4 34 v1.toNatClampNeg) →
       (¬ v2 = 1 →
        wp_X12_as_b59 Post v1 v2 M4) ∧
       (v2 = 1 →
        vp_in v1 4 ∧
        (¬ (rd M4 34 v1.toNatClampNeg) = 4 →
         wp_X12_as_b59 Post v1 v2 M4) ∧
        ((rd M4 34 v1.toNatClampNeg) = 4 →
         wp_X12_as_b55 Post v1 v2 M4))))) ∧
    (r3 = 0 →
     Post (-102) M4)) M2 (v2.toInt64) (0 : Int64) (4 : Int64)) ∧
  (r1 = 0 →
   Post (-101) M2)) M v1
theorem k_X12_as_b60 {E : Ek} {x : MC} (X : Cx E x cX12_as 4 RX12 3) {Post : Int32 → Mem → Prop} (hQ : QI E x Post (some .int)) {v1 : Int32} {v2 : Int32} {M : Mem} {s0 : Int32} (h : wp_X12_as_b60 Post v1 v2 M s0) : G E x M 60 [(1, .int v1)] [.int s0] := by
  refine g_istore_n (lv' := [(1, .int v1), (3, .int s0)]) X dX12_as_60 rfl (Nat.le_of_ble_eq_true rfl) rfl rfl ?_
  refine g_iload_n X dX12_as_61 rfl 1 rfl ?_
  refine g_ifeq (tgt := 69) X dX12_as_62 (by decide) h (fun h => ?_) (fun h => ?_)
  · refine g_iconst (v := (-1)) X dX12_as_69 (by decide) ?_
    exact g_iret X hQ dX12_as_70 h
  · refine g_iload_n X dX12_as_65 rfl 0 rfl ?_
    refine g_goto (tgt := 70) X dX12_as_66 (by decide) ?_
    exact g_iret X hQ dX12_as_70 h
theorem k_X12_as_b59 {E : Ek} {x : MC} (X : Cx E x cX12_as 4 RX12 3) {Post : Int32 → Mem → Prop} (hQ : QI E x Post (some .int)) {v1 : Int32} {v2 : Int32} {M : Mem} (h : wp_X12_as_b59 Post v1 v2 M ) : G E x M 59 [(1, .int v1)] [] := by
  refine g_iconst (v := 0) X dX12_as_59 (by decide) ?_
  exact (k_X12_as_b60 X hQ  h)
theorem k_X12_as_b55 {E : Ek} {x : MC} (X : Cx E x cX12_as 4 RX12 3) {Post : Int32 → Mem → Prop} (hQ : QI E x Post (some .int)) {v1 : Int32} {v2 : Int32} {M : Mem} (h : wp_X12_as_b55 Post v1 v2 M ) : G E x M 55 [(1, .int v1)] [] := by
  refine g_iconst (v := 1) X dX12_as_55 (by decide) ?_
  refine g_goto (tgt := 60) X dX12_as_56 (by decide) ?_
  exact (k_X12_as_b60 X hQ  h)
theorem w_X12_as (E : Ek) (l : Launch) {v1 : Int32} {v2 : Int32} {M : Mem} {Post : Int32 → Mem → Prop} (h : wp_X12_as Post M v1 v2) : ctI E l yX12_as cX12_as 4 (some .int) 3 [.ref (ad E 29), .int v1, .int v2] M Post := by
  refine ct_of (by decide) (Nat.le_of_ble_eq_true rfl) (fun x X hQ => ?_)
  change G E x M 0 [(0, .ref (ad E 29)), (1, .int v1), (2, .int v2)] []
  refine g_aload_n X dX12_as_0 rfl 0 rfl ?_
  refine g_iload_n X dX12_as_1 rfl 1 rfl ?_
  refine cl_X12_215 X (by decide) (Nat.le_of_ble_eq_true rfl) dX12_as_2 h (fun r1 M2 h => ?_)
  refine g_ifne (tgt := 11) X dX12_as_5 (by decide) h (fun h => ?_) (fun h => ?_)
  · refine g_iload_n X dX12_as_11 rfl 2 rfl ?_
    refine g_i2l X dX12_as_12 ?_
    refine g_lconst (v := 0) X dX12_as_13 (by decide) ?_
    refine g_ldc2 X dX12_as_14 m634 ?_
    refine cl_X12_103 X (by decide) (Nat.le_of_ble_eq_true rfl) dX12_as_17 h (fun r3 M4 h => ?_)
    refine g_ifne (tgt := 26) X dX12_as_20 (by decide) h (fun h => ?_) (fun h => ?_)
    · refine g_iload_n X dX12_as_26 rfl 2 rfl ?_
      refine g_ifeq (tgt := 55) X dX12_as_27 (by decide) h (fun h => ?_) (fun h => ?_)
      · exact g_sub [1] rfl (k_X12_as_b55 X hQ  h)
      · refine g_iload_n X dX12_as_30 rfl 2 rfl ?_
        refine g_aload_n X dX12_as_31 rfl 0 rfl ?_
        refine fg_X12_22 X dX12_as_32 ?_
        refine g_iload_n X dX12_as_35 rfl 1 rfl ?_
        refine g_iald X ia_34 dX12_as_36 h (fun h => ?_)
        refine g_icmpeq (tgt := 55) X dX12_as_37 (by decide) h (fun h => ?_) (fun h => ?_)
        · exact g_sub [1] rfl (k_X12_as_b55 X hQ  h)
        · refine g_iload_n X dX12_as_40 rfl 2 rfl ?_
          refine g_iconst (v := 1) X dX12_as_41 (by decide) ?_
          refine g_icmpne (tgt := 59) X dX12_as_42 (by decide) h (fun h => ?_) (fun h => ?_)
          · exact g_sub [1] rfl (k_X12_as_b59 X hQ  h)
          · refine g_aload_n X dX12_as_45 rfl 0 rfl ?_
            refine fg_X12_22 X dX12_as_46 ?_
            refine g_iload_n X dX12_as_49 rfl 1 rfl ?_
            refine g_iald X ia_34 dX12_as_50 h (fun h => ?_)
            refine g_iconst (v := 4) X dX12_as_51 (by decide) ?_
            refine g_icmpne (tgt := 59) X dX12_as_52 (by decide) h (fun h => ?_) (fun h => ?_)
            · exact g_sub [1] rfl (k_X12_as_b59 X hQ  h)
            · exact g_sub [1] rfl (k_X12_as_b55 X hQ  h)
    · refine g_bipush (v := (-102)) X dX12_as_23 (by decide) ?_
      exact g_iret X hQ dX12_as_25 h
  · refine g_bipush (v := (-101)) X dX12_as_8 (by decide) ?_
    exact g_iret X hQ dX12_as_10 h
theorem cw_X12_tellDoor : CW yX12_tellDoor cX12_tellDoor 3 (some .int) 2 := ⟨m636, m499, Nat.le_of_ble_eq_true rfl, by decide +kernel⟩
def wp_X12_tellDoor (Post : Int32 → Mem → Prop) (M : Mem) (v1 : Int32) (v2 : Int32) : Prop :=
 (v2 = 0 →
  vp_in v1 6 ∧
  Post (rd M 31 v1.toNatClampNeg) M) ∧
 (v2 = 1 →
  vp_in v1 6 ∧
  Post (rd M 32 v1.toNatClampNeg) M) ∧
 (v2 = 2 →
  vp_in v1 6 ∧
  Post (rd M 33 v1.toNatClampNeg) M) ∧
 (¬ v2 = 0 → ¬ v2 = 1 → ¬ v2 = 2 → 
  Post (-102) M)
theorem w_X12_tellDoor (E : Ek) (l : Launch) {v1 : Int32} {v2 : Int32} {M : Mem} {Post : Int32 → Mem → Prop} (h : wp_X12_tellDoor Post M v1 v2) : ctI E l yX12_tellDoor cX12_tellDoor 3 (some .int) 1 [.ref (ad E 29), .int v1, .int v2] M Post := by
  refine ct_of (by decide) (Nat.le_of_ble_eq_true rfl) (fun x X hQ => ?_)
  change G E x M 0 [(0, .ref (ad E 29)), (1, .int v1), (2, .int v2)] []
  refine g_iload_n X dX12_tellDoor_0 rfl 2 rfl ?_
  by_cases c0 : v2 = 0
  · have h := h.1 c0
    refine g_tabI (tgt := 28) X dX12_tellDoor_1 c0 ⟨⟨by decide, by decide⟩, rfl⟩ (by decide) ?_
    refine g_aload_n X dX12_tellDoor_28 rfl 0 rfl ?_
    refine fg_X12_13 X dX12_tellDoor_29 ?_
    refine g_iload_n X dX12_tellDoor_32 rfl 1 rfl ?_
    refine g_iald X ia_31 dX12_tellDoor_33 h (fun h => ?_)
    exact g_iret X hQ dX12_tellDoor_34 h
  by_cases c1 : v2 = 1
  · have h := h.2.1 c1
    refine g_tabI (tgt := 35) X dX12_tellDoor_1 c1 ⟨⟨by decide, by decide⟩, rfl⟩ (by decide) ?_
    refine g_aload_n X dX12_tellDoor_35 rfl 0 rfl ?_
    refine fg_X12_16 X dX12_tellDoor_36 ?_
    refine g_iload_n X dX12_tellDoor_39 rfl 1 rfl ?_
    refine g_iald X ia_32 dX12_tellDoor_40 h (fun h => ?_)
    exact g_iret X hQ dX12_tellDoor_41 h
  by_cases c2 : v2 = 2
  · have h := h.2.2.1 c2
    refine g_tabI (tgt := 42) X dX12_tellDoor_1 c2 ⟨⟨by decide, by decide⟩, rfl⟩ (by decide) ?_
    refine g_aload_n X dX12_tellDoor_42 rfl 0 rfl ?_
    refine fg_X12_19 X dX12_tellDoor_43 ?_
    refine g_iload_n X dX12_tellDoor_46 rfl 1 rfl ?_
    refine g_iald X ia_33 dX12_tellDoor_47 h (fun h => ?_)
    exact g_iret X hQ dX12_tellDoor_48 h
  have h := h.2.2.2 c0 c1 c2
  refine g_tabO (tgt := 49) X dX12_tellDoor_1 (by have e0 := lv_neT (a := 0) c0 (by decide); have e1 := lv_neT (a := 1) c1 (by decide); have e2 := lv_neT (a := 2) c2 (by decide); omega) (by decide) ?_
  refine g_bipush (v := (-102)) X dX12_tellDoor_49 (by decide) ?_
  exact g_iret X hQ dX12_tellDoor_51 h
theorem cl_X12_227 {E : Ek} {x : MC} {cc : ByteArray} {nL hm pc : Nat} {M : Mem} {lv : List (Nat × Value)} {st : List Value} (X : Cx E x cc nL RX12 hm) {v1 : Int32} {v2 : Int32} {Post : Int32 → Mem → Prop} (hr : 1 < hm) (hW : (st.map fun v => v.category).sum ≤ 8) (hd : decode cc pc = .ok (.invokevirtual 227, 3)) (h : wp_X12_tellDoor Post M v1 v2) (kk : ∀ r M1, Post r M1 → G E x M1 (pc + 3) lv (.int r :: st)) : G E x M pc lv (.int v2 :: .int v1 :: .ref (ad E 29) :: st) := k_I (fun hP hS hL => run_V X (w_X12_tellDoor E (xl x)  h) cw_X12_tellDoor m640 m641 m642 (⟨by decide, fun E f h => ⟨_, _, _, rfl, rfl, rfl⟩⟩ : OC 29 RX12) hr rfl hd hW hP hS hL) kk
theorem cw_X12_door : CW yX12_door cX12_door 3 (some .int) 2 := ⟨m643, m499, Nat.le_of_ble_eq_true rfl, by decide +kernel⟩
def wp_X12_door (Post : Int32 → Mem → Prop) (M : Mem) (v1 : Int32) (v2 : Int32) : Prop :=
 wp_X12_isDoor (fun r1 M2 =>
  (r1 = 0 →
   Post (-101) M2) ∧
  (¬ r1 = 0 →
   wp_X12_tellDoor (fun r3 M4 =>
    Post r3 M4) M2 v1 v2)) M v1
theorem w_X12_door (E : Ek) (l : Launch) {v1 : Int32} {v2 : Int32} {M : Mem} {Post : Int32 → Mem → Prop} (h : wp_X12_door Post M v1 v2) : ctI E l yX12_door cX12_door 3 (some .int) 3 [.ref (ad E 29), .int v1, .int v2] M Post := by
  refine ct_of (by decide) (Nat.le_of_ble_eq_true rfl) (fun x X hQ => ?_)
  change G E x M 0 [(0, .ref (ad E 29)), (1, .int v1), (2, .int v2)] []
  refine g_aload_n X dX12_door_0 rfl 0 rfl ?_
  refine g_iload_n X dX12_door_1 rfl 1 rfl ?_
  refine cl_X12_224 X (by decide) (Nat.le_of_ble_eq_true rfl) dX12_door_2 h (fun r1 M2 h => ?_)
  refine g_ifeq (tgt := 17) X dX12_door_5 (by decide) h (fun h => ?_) (fun h => ?_)
  · refine g_bipush (v := (-101)) X dX12_door_17 (by decide) ?_
    exact g_iret X hQ dX12_door_19 h
  · refine g_aload_n X dX12_door_8 rfl 0 rfl ?_
    refine g_iload_n X dX12_door_9 rfl 1 rfl ?_
    refine g_iload_n X dX12_door_10 rfl 2 rfl ?_
    refine cl_X12_227 X (by decide) (Nat.le_of_ble_eq_true rfl) dX12_door_11 h (fun r3 M4 h => ?_)
    refine g_goto (tgt := 19) X dX12_door_14 (by decide) ?_
    exact g_iret X hQ dX12_door_19 h
theorem cw_X12_tellDebt : CW yX12_tellDebt cX12_tellDebt 3 (some .int) 2 := ⟨m644, m499, Nat.le_of_ble_eq_true rfl, by decide +kernel⟩
def wp_X12_tellDebt (Post : Int32 → Mem → Prop) (M : Mem) (v1 : Int32) (v2 : Int32) : Prop :=
 (v2 = 0 →
  vp_in v1 4 ∧
  Post (rd M 38 v1.toNatClampNeg) M) ∧
 (v2 = 1 →
  vp_in v1 4 ∧
  Post (rd M 39 v1.toNatClampNeg) M) ∧
 (v2 = 2 →
  vp_in v1 4 ∧
  Post (rd M 40 v1.toNatClampNeg) M) ∧
 (v2 = 3 →
  vp_in v1 4 ∧
  Post (rd M 41 v1.toNatClampNeg) M) ∧
 (v2 = 4 →
  wp_X12_costs (fun r1 M2 =>
   Post r1 M2) M v1) ∧
 (v2 = 5 →
  vp_in v1 4 ∧
  Post (rd M 42 v1.toNatClampNeg) M) ∧
 (¬ v2 = 0 → ¬ v2 = 1 → ¬ v2 = 2 → ¬ v2 = 3 → ¬ v2 = 4 → ¬ v2 = 5 → 
  Post (-102) M)
theorem w_X12_tellDebt (E : Ek) (l : Launch) {v1 : Int32} {v2 : Int32} {M : Mem} {Post : Int32 → Mem → Prop} (h : wp_X12_tellDebt Post M v1 v2) : ctI E l yX12_tellDebt cX12_tellDebt 3 (some .int) 2 [.ref (ad E 29), .int v1, .int v2] M Post := by
  refine ct_of (by decide) (Nat.le_of_ble_eq_true rfl) (fun x X hQ => ?_)
  change G E x M 0 [(0, .ref (ad E 29)), (1, .int v1), (2, .int v2)] []
  refine g_iload_n X dX12_tellDebt_0 rfl 2 rfl ?_
  by_cases c0 : v2 = 0
  · have h := h.1 c0
    refine g_tabI (tgt := 40) X dX12_tellDebt_1 c0 ⟨⟨by decide, by decide⟩, rfl⟩ (by decide) ?_
    refine g_aload_n X dX12_tellDebt_40 rfl 0 rfl ?_
    refine fg_X12_34 X dX12_tellDebt_41 ?_
    refine g_iload_n X dX12_tellDebt_44 rfl 1 rfl ?_
    refine g_iald X ia_38 dX12_tellDebt_45 h (fun h => ?_)
    exact g_iret X hQ dX12_tellDebt_46 h
  by_cases c1 : v2 = 1
  · have h := h.2.1 c1
    refine g_tabI (tgt := 47) X dX12_tellDebt_1 c1 ⟨⟨by decide, by decide⟩, rfl⟩ (by decide) ?_
    refine g_aload_n X dX12_tellDebt_47 rfl 0 rfl ?_
    refine fg_X12_37 X dX12_tellDebt_48 ?_
    refine g_iload_n X dX12_tellDebt_51 rfl 1 rfl ?_
    refine g_iald X ia_39 dX12_tellDebt_52 h (fun h => ?_)
    exact g_iret X hQ dX12_tellDebt_53 h
  by_cases c2 : v2 = 2
  · have h := h.2.2.1 c2
    refine g_tabI (tgt := 54) X dX12_tellDebt_1 c2 ⟨⟨by decide, by decide⟩, rfl⟩ (by decide) ?_
    refine g_aload_n X dX12_tellDebt_54 rfl 0 rfl ?_
    refine fg_X12_40 X dX12_tellDebt_55 ?_
    refine g_iload_n X dX12_tellDebt_58 rfl 1 rfl ?_
    refine g_iald X ia_40 dX12_tellDebt_59 h (fun h => ?_)
    exact g_iret X hQ dX12_tellDebt_60 h
  by_cases c3 : v2 = 3
  · have h := h.2.2.2.1 c3
    refine g_tabI (tgt := 61) X dX12_tellDebt_1 c3 ⟨⟨by decide, by decide⟩, rfl⟩ (by decide) ?_
    refine g_aload_n X dX12_tellDebt_61 rfl 0 rfl ?_
    refine fg_X12_43 X dX12_tellDebt_62 ?_
    refine g_iload_n X dX12_tellDebt_65 rfl 1 rfl ?_
    refine g_iald X ia_41 dX12_tellDebt_66 h (fun h => ?_)
    exact g_iret X hQ dX12_tellDebt_67 h
  by_cases c4 : v2 = 4
  · have h := h.2.2.2.2.1 c4
    refine g_tabI (tgt := 68) X dX12_tellDebt_1 c4 ⟨⟨by decide, by decide⟩, rfl⟩ (by decide) ?_
    refine g_aload_n X dX12_tellDebt_68 rfl 0 rfl ?_
    refine g_iload_n X dX12_tellDebt_69 rfl 1 rfl ?_
    refine cl_X12_184 X (by decide) (Nat.le_of_ble_eq_true rfl) dX12_tellDebt_70 h (fun r1 M2 h => ?_)
    exact g_iret X hQ dX12_tellDebt_73 h
  by_cases c5 : v2 = 5
  · have h := h.2.2.2.2.2.1 c5
    refine g_tabI (tgt := 74) X dX12_tellDebt_1 c5 ⟨⟨by decide, by decide⟩, rfl⟩ (by decide) ?_
    refine g_aload_n X dX12_tellDebt_74 rfl 0 rfl ?_
    refine fg_X12_46 X dX12_tellDebt_75 ?_
    refine g_iload_n X dX12_tellDebt_78 rfl 1 rfl ?_
    refine g_iald X ia_42 dX12_tellDebt_79 h (fun h => ?_)
    exact g_iret X hQ dX12_tellDebt_80 h
  have h := h.2.2.2.2.2.2 c0 c1 c2 c3 c4 c5
  refine g_tabO (tgt := 81) X dX12_tellDebt_1 (by have e0 := lv_neT (a := 0) c0 (by decide); have e1 := lv_neT (a := 1) c1 (by decide); have e2 := lv_neT (a := 2) c2 (by decide); have e3 := lv_neT (a := 3) c3 (by decide); have e4 := lv_neT (a := 4) c4 (by decide); have e5 := lv_neT (a := 5) c5 (by decide); omega) (by decide) ?_
  refine g_bipush (v := (-102)) X dX12_tellDebt_81 (by decide) ?_
  exact g_iret X hQ dX12_tellDebt_83 h
theorem cl_X12_233 {E : Ek} {x : MC} {cc : ByteArray} {nL hm pc : Nat} {M : Mem} {lv : List (Nat × Value)} {st : List Value} (X : Cx E x cc nL RX12 hm) {v1 : Int32} {v2 : Int32} {Post : Int32 → Mem → Prop} (hr : 2 < hm) (hW : (st.map fun v => v.category).sum ≤ 8) (hd : decode cc pc = .ok (.invokevirtual 233, 3)) (h : wp_X12_tellDebt Post M v1 v2) (kk : ∀ r M1, Post r M1 → G E x M1 (pc + 3) lv (.int r :: st)) : G E x M pc lv (.int v2 :: .int v1 :: .ref (ad E 29) :: st) := k_I (fun hP hS hL => run_V X (w_X12_tellDebt E (xl x)  h) cw_X12_tellDebt m648 m649 m650 (⟨by decide, fun E f h => ⟨_, _, _, rfl, rfl, rfl⟩⟩ : OC 29 RX12) hr rfl hd hW hP hS hL) kk
theorem cw_X12_debt : CW yX12_debt cX12_debt 3 (some .int) 2 := ⟨m651, m499, Nat.le_of_ble_eq_true rfl, by decide +kernel⟩
def wp_X12_debt (Post : Int32 → Mem → Prop) (M : Mem) (v1 : Int32) (v2 : Int32) : Prop :=
 wp_X12_isDebt (fun r1 M2 =>
  (r1 = 0 →
   Post (-101) M2) ∧
  (¬ r1 = 0 →
   wp_X12_tellDebt (fun r3 M4 =>
    Post r3 M4) M2 v1 v2)) M v1
theorem w_X12_debt (E : Ek) (l : Launch) {v1 : Int32} {v2 : Int32} {M : Mem} {Post : Int32 → Mem → Prop} (h : wp_X12_debt Post M v1 v2) : ctI E l yX12_debt cX12_debt 3 (some .int) 3 [.ref (ad E 29), .int v1, .int v2] M Post := by
  refine ct_of (by decide) (Nat.le_of_ble_eq_true rfl) (fun x X hQ => ?_)
  change G E x M 0 [(0, .ref (ad E 29)), (1, .int v1), (2, .int v2)] []
  refine g_aload_n X dX12_debt_0 rfl 0 rfl ?_
  refine g_iload_n X dX12_debt_1 rfl 1 rfl ?_
  refine cl_X12_230 X (by decide) (Nat.le_of_ble_eq_true rfl) dX12_debt_2 h (fun r1 M2 h => ?_)
  refine g_ifeq (tgt := 17) X dX12_debt_5 (by decide) h (fun h => ?_) (fun h => ?_)
  · refine g_bipush (v := (-101)) X dX12_debt_17 (by decide) ?_
    exact g_iret X hQ dX12_debt_19 h
  · refine g_aload_n X dX12_debt_8 rfl 0 rfl ?_
    refine g_iload_n X dX12_debt_9 rfl 1 rfl ?_
    refine g_iload_n X dX12_debt_10 rfl 2 rfl ?_
    refine cl_X12_233 X (by decide) (Nat.le_of_ble_eq_true rfl) dX12_debt_11 h (fun r3 M4 h => ?_)
    refine g_goto (tgt := 19) X dX12_debt_14 (by decide) ?_
    exact g_iret X hQ dX12_debt_19 h
theorem cw_X12_go : CW yX12_go cX12_go 4 (some .int) 2 := ⟨m652, m499, Nat.le_of_ble_eq_true rfl, by decide +kernel⟩
def wp_X12_go (Post : Int32 → Mem → Prop) (M : Mem) (v1 : Int32) (v2 : Int32) : Prop :=
 wp_X12_isPerson (fun r1 M2 =>
  (r1 = 0 →
   Post (-101) M2) ∧
  (¬ r1 = 0 →
   wp_X12_isDoor (fun r3 M4 =>
    (¬ r3 = 0 →
     vp_in v1 4 ∧
     wp_X12_through (fun r5 M6 =>
      (¬ r5 = (-1) →
       (¬ (rd M6 29 8) = 999 →
        vp_in v1 4 ∧
        ∀ M7 : Mem, M7 = wr M6 36 v1.toNatClampNeg r5 →
        ∀ M8 : Mem, M8 = wr M7 29 8 ((rd M7 29 8) + 1) →
        Post r5 M8) ∧
       ((rd M6 29 8) = 999 →
        Post (-104) M6)) ∧
      (r5 = (-1) →
       Post (-103) M6)) M4 v1 v2 (rd M4 36 v1.toNatClampNeg)) ∧
    (r3 = 0 →
     Post (-101) M4)) M2 v2)) M v1
theorem w_X12_go (E : Ek) (l : Launch) {v1 : Int32} {v2 : Int32} {M : Mem} {Post : Int32 → Mem → Prop} (h : wp_X12_go Post M v1 v2) : ctI E l yX12_go cX12_go 4 (some .int) 3 [.ref (ad E 29), .int v1, .int v2] M Post := by
  refine ct_of (by decide) (Nat.le_of_ble_eq_true rfl) (fun x X hQ => ?_)
  change G E x M 0 [(0, .ref (ad E 29)), (1, .int v1), (2, .int v2)] []
  refine g_aload_n X dX12_go_0 rfl 0 rfl ?_
  refine g_iload_n X dX12_go_1 rfl 1 rfl ?_
  refine cl_X12_215 X (by decide) (Nat.le_of_ble_eq_true rfl) dX12_go_2 h (fun r1 M2 h => ?_)
  refine g_ifeq (tgt := 16) X dX12_go_5 (by decide) h (fun h => ?_) (fun h => ?_)
  · refine g_bipush (v := (-101)) X dX12_go_16 (by decide) ?_
    exact g_iret X hQ dX12_go_18 h
  · refine g_aload_n X dX12_go_8 rfl 0 rfl ?_
    refine g_iload_n X dX12_go_9 rfl 2 rfl ?_
    refine cl_X12_224 X (by decide) (Nat.le_of_ble_eq_true rfl) dX12_go_10 h (fun r3 M4 h => ?_)
    refine g_ifne (tgt := 19) X dX12_go_13 (by decide) h (fun h => ?_) (fun h => ?_)
    · refine g_aload_n X dX12_go_19 rfl 0 rfl ?_
      refine g_iload_n X dX12_go_20 rfl 1 rfl ?_
      refine g_iload_n X dX12_go_21 rfl 2 rfl ?_
      refine g_aload_n X dX12_go_22 rfl 0 rfl ?_
      refine fg_X12_28 X dX12_go_23 ?_
      refine g_iload_n X dX12_go_26 rfl 1 rfl ?_
      refine g_iald X ia_36 dX12_go_27 h (fun h => ?_)
      refine cl_X12_187 X (by decide) (Nat.le_of_ble_eq_true rfl) dX12_go_28 h (fun r5 M6 h => ?_)
      refine g_istore_n (lv' := [(0, .ref (ad E 29)), (1, .int v1), (2, .int v2), (3, .int r5)]) X dX12_go_31 rfl (Nat.le_of_ble_eq_true rfl) rfl rfl ?_
      refine g_iload_n X dX12_go_32 rfl 3 rfl ?_
      refine g_iconst (v := (-1)) X dX12_go_33 (by decide) ?_
      refine g_icmpne (tgt := 40) X dX12_go_34 (by decide) h (fun h => ?_) (fun h => ?_)
      · refine g_aload_n X dX12_go_40 rfl 0 rfl ?_
        refine fg_X12_168 X dX12_go_41 ?_
        refine g_sipush (v := 999) X dX12_go_44 (by decide) ?_
        refine g_icmpne (tgt := 53) X dX12_go_47 (by decide) h (fun h => ?_) (fun h => ?_)
        · refine g_aload_n X dX12_go_53 rfl 0 rfl ?_
          refine fg_X12_28 X dX12_go_54 ?_
          refine g_iload_n X dX12_go_57 rfl 1 rfl ?_
          refine g_iload_n X dX12_go_58 rfl 3 rfl ?_
          refine g_iast X ia_36 dX12_go_59 h (fun M7 h => ?_)
          refine g_aload_n X dX12_go_60 rfl 0 rfl ?_
          refine g_dup X dX12_go_61 rfl ?_
          refine fg_X12_168 X dX12_go_62 ?_
          refine g_iconst (v := 1) X dX12_go_65 (by decide) ?_
          refine g_iadd X dX12_go_66 ?_
          refine fp_X12_168 X dX12_go_67 h (fun M8 h => ?_)
          refine g_iload_n X dX12_go_70 rfl 3 rfl ?_
          exact g_iret X hQ dX12_go_71 h
        · refine g_bipush (v := (-104)) X dX12_go_50 (by decide) ?_
          exact g_iret X hQ dX12_go_52 h
      · refine g_bipush (v := (-103)) X dX12_go_37 (by decide) ?_
        exact g_iret X hQ dX12_go_39 h
    · refine g_bipush (v := (-101)) X dX12_go_16 (by decide) ?_
      exact g_iret X hQ dX12_go_18 h
theorem cw_X12_give : CW yX12_give cX12_give 4 (some .int) 2 := ⟨m653, m499, Nat.le_of_ble_eq_true rfl, by decide +kernel⟩
def wp_X12_give (Post : Int32 → Mem → Prop) (M : Mem) (v1 : Int32) (v2 : Int32) : Prop :=
 wp_X12_in (fun r1 M2 =>
  (r1 = 0 →
   Post (-101) M2) ∧
  (¬ r1 = 0 →
   wp_X12_isPerson (fun r3 M4 =>
    (¬ r3 = 0 →
     vp_in v1 2 ∧
     ∀ x3_5 : Int32, x3_5 = rd M4 37 v1.toNatClampNeg →
     (x3_5 = v2 →
      Post (-103) M4) ∧
     (¬ x3_5 = v2 →
      vp_in x3_5 4 ∧
      vp_in v2 4 ∧
      ((rd M4 36 x3_5.toNatClampNeg) = (rd M4 36 v2.toNatClampNeg) →
       vp_in v1 2 ∧
       ∀ M6 : Mem, M6 = wr M4 37 v1.toNatClampNeg v2 →
       Post x3_5 M6) ∧
      (¬ (rd M4 36 x3_5.toNatClampNeg) = (rd M4 36 v2.toNatClampNeg) →
       Post (-103) M4))) ∧
    (r3 = 0 →
     Post (-101) M4)) M2 v2)) M (v1.toInt64) (0 : Int64) (1 : Int64)
theorem w_X12_give (E : Ek) (l : Launch) {v1 : Int32} {v2 : Int32} {M : Mem} {Post : Int32 → Mem → Prop} (h : wp_X12_give Post M v1 v2) : ctI E l yX12_give cX12_give 4 (some .int) 3 [.ref (ad E 29), .int v1, .int v2] M Post := by
  refine ct_of (by decide) (Nat.le_of_ble_eq_true rfl) (fun x X hQ => ?_)
  change G E x M 0 [(0, .ref (ad E 29)), (1, .int v1), (2, .int v2)] []
  refine g_iload_n X dX12_give_0 rfl 1 rfl ?_
  refine g_i2l X dX12_give_1 ?_
  refine g_lconst (v := 0) X dX12_give_2 (by decide) ?_
  refine g_lconst (v := 1) X dX12_give_3 (by decide) ?_
  refine cl_X12_103 X (by decide) (Nat.le_of_ble_eq_true rfl) dX12_give_4 h (fun r1 M2 h => ?_)
  refine g_ifeq (tgt := 18) X dX12_give_7 (by decide) h (fun h => ?_) (fun h => ?_)
  · refine g_bipush (v := (-101)) X dX12_give_18 (by decide) ?_
    exact g_iret X hQ dX12_give_20 h
  · refine g_aload_n X dX12_give_10 rfl 0 rfl ?_
    refine g_iload_n X dX12_give_11 rfl 2 rfl ?_
    refine cl_X12_215 X (by decide) (Nat.le_of_ble_eq_true rfl) dX12_give_12 h (fun r3 M4 h => ?_)
    refine g_ifne (tgt := 21) X dX12_give_15 (by decide) h (fun h => ?_) (fun h => ?_)
    · refine g_aload_n X dX12_give_21 rfl 0 rfl ?_
      refine fg_X12_31 X dX12_give_22 ?_
      refine g_iload_n X dX12_give_25 rfl 1 rfl ?_
      refine g_iald X ia_37 dX12_give_26 h (fun h => ?_)
      refine g_nm h (fun x3_5 h => ?_)
      refine g_istore_n (lv' := [(0, .ref (ad E 29)), (1, .int v1), (2, .int v2), (3, .int x3_5)]) X dX12_give_27 rfl (Nat.le_of_ble_eq_true rfl) rfl rfl ?_
      refine g_iload_n X dX12_give_28 rfl 3 rfl ?_
      refine g_iload_n X dX12_give_29 rfl 2 rfl ?_
      refine g_icmpeq (tgt := 48) X dX12_give_30 (by decide) h (fun h => ?_) (fun h => ?_)
      · refine g_bipush (v := (-103)) X dX12_give_48 (by decide) ?_
        exact g_iret X hQ dX12_give_50 h
      · refine g_aload_n X dX12_give_33 rfl 0 rfl ?_
        refine fg_X12_28 X dX12_give_34 ?_
        refine g_iload_n X dX12_give_37 rfl 3 rfl ?_
        refine g_iald X ia_36 dX12_give_38 h (fun h => ?_)
        refine g_aload_n X dX12_give_39 rfl 0 rfl ?_
        refine fg_X12_28 X dX12_give_40 ?_
        refine g_iload_n X dX12_give_43 rfl 2 rfl ?_
        refine g_iald X ia_36 dX12_give_44 h (fun h => ?_)
        refine g_icmpeq (tgt := 51) X dX12_give_45 (by decide) h (fun h => ?_) (fun h => ?_)
        · refine g_aload_n X dX12_give_51 rfl 0 rfl ?_
          refine fg_X12_31 X dX12_give_52 ?_
          refine g_iload_n X dX12_give_55 rfl 1 rfl ?_
          refine g_iload_n X dX12_give_56 rfl 2 rfl ?_
          refine g_iast X ia_37 dX12_give_57 h (fun M6 h => ?_)
          refine g_iload_n X dX12_give_58 rfl 3 rfl ?_
          exact g_iret X hQ dX12_give_59 h
        · refine g_bipush (v := (-103)) X dX12_give_48 (by decide) ?_
          exact g_iret X hQ dX12_give_50 h
    · refine g_bipush (v := (-101)) X dX12_give_18 (by decide) ?_
      exact g_iret X hQ dX12_give_20 h
theorem cw_X12_pay : CW yX12_pay cX12_pay 2 (some .int) 1 := ⟨m657, m499, Nat.le_of_ble_eq_true rfl, by decide +kernel⟩
def wp_X12_pay (Post : Int32 → Mem → Prop) (M : Mem) (v1 : Int32) : Prop :=
 wp_X12_isDebt (fun r1 M2 =>
  (¬ r1 = 0 →
   wp_X12_begin (fun M4 =>
    wp_X12_mayThen (fun r5 M6 =>
     (¬ r5 = 0 →
      wp_X12_payThen (fun M8 =>
       wp_X12_copy (fun M10 =>
        wp_X12_copy (fun M12 =>
         vp_in v1 4 ∧
         vp_in (rd M12 38 v1.toNatClampNeg) 4 ∧
         Post (rd M12 35 (rd M12 38 v1.toNatClampNeg).toNatClampNeg) M12) M10 45 4 42 4) M8 43 4 35 4) M6 v1) ∧
     (r5 = 0 →
      Post (-103) M6)) M4 v1) M2 ) ∧
  (r1 = 0 →
   Post (-101) M2)) M v1
theorem w_X12_pay (E : Ek) (l : Launch) {v1 : Int32} {M : Mem} {Post : Int32 → Mem → Prop} (h : wp_X12_pay Post M v1) : ctI E l yX12_pay cX12_pay 2 (some .int) 3 [.ref (ad E 29), .int v1] M Post := by
  refine ct_of (by decide) (Nat.le_of_ble_eq_true rfl) (fun x X hQ => ?_)
  change G E x M 0 [(0, .ref (ad E 29)), (1, .int v1)] []
  refine g_aload_n X dX12_pay_0 rfl 0 rfl ?_
  refine g_iload_n X dX12_pay_1 rfl 1 rfl ?_
  refine cl_X12_230 X (by decide) (Nat.le_of_ble_eq_true rfl) dX12_pay_2 h (fun r1 M2 h => ?_)
  refine g_ifne (tgt := 11) X dX12_pay_5 (by decide) h (fun h => ?_) (fun h => ?_)
  · refine g_aload_n X dX12_pay_11 rfl 0 rfl ?_
    refine cl_X12_191 X (by decide) (Nat.le_of_ble_eq_true rfl) dX12_pay_12 h (fun M4 h => ?_)
    refine g_aload_n X dX12_pay_15 rfl 0 rfl ?_
    refine g_iload_n X dX12_pay_16 rfl 1 rfl ?_
    refine cl_X12_194 X (by decide) (Nat.le_of_ble_eq_true rfl) dX12_pay_17 h (fun r5 M6 h => ?_)
    refine g_ifne (tgt := 26) X dX12_pay_20 (by decide) h (fun h => ?_) (fun h => ?_)
    · refine g_aload_n X dX12_pay_26 rfl 0 rfl ?_
      refine g_iload_n X dX12_pay_27 rfl 1 rfl ?_
      refine cl_X12_236 X (by decide) (Nat.le_of_ble_eq_true rfl) dX12_pay_28 h (fun M8 h => ?_)
      refine g_aload_n X dX12_pay_31 rfl 0 rfl ?_
      refine fg_X12_49 X dX12_pay_32 ?_
      refine g_aload_n X dX12_pay_35 rfl 0 rfl ?_
      refine fg_X12_25 X dX12_pay_36 ?_
      refine cl_X12_177 X ia_43 ia_35 (by decide) (Nat.le_of_ble_eq_true rfl) dX12_pay_39 h (fun M10 h => ?_)
      refine g_aload_n X dX12_pay_42 rfl 0 rfl ?_
      refine fg_X12_55 X dX12_pay_43 ?_
      refine g_aload_n X dX12_pay_46 rfl 0 rfl ?_
      refine fg_X12_46 X dX12_pay_47 ?_
      refine cl_X12_177 X ia_45 ia_42 (by decide) (Nat.le_of_ble_eq_true rfl) dX12_pay_50 h (fun M12 h => ?_)
      refine g_aload_n X dX12_pay_53 rfl 0 rfl ?_
      refine fg_X12_25 X dX12_pay_54 ?_
      refine g_aload_n X dX12_pay_57 rfl 0 rfl ?_
      refine fg_X12_34 X dX12_pay_58 ?_
      refine g_iload_n X dX12_pay_61 rfl 1 rfl ?_
      refine g_iald X ia_38 dX12_pay_62 h (fun h => ?_)
      refine g_iald X ia_35 dX12_pay_63 h (fun h => ?_)
      exact g_iret X hQ dX12_pay_64 h
    · refine g_bipush (v := (-103)) X dX12_pay_23 (by decide) ?_
      exact g_iret X hQ dX12_pay_25 h
  · refine g_bipush (v := (-101)) X dX12_pay_8 (by decide) ?_
    exact g_iret X hQ dX12_pay_10 h
theorem cw_X12_earn : CW yX12_earn cX12_earn 3 (some .int) 2 := ⟨m659, m499, Nat.le_of_ble_eq_true rfl, by decide +kernel⟩
def wp_X12_earn (Post : Int32 → Mem → Prop) (M : Mem) (v1 : Int32) (v2 : Int32) : Prop :=
 wp_X12_isPerson (fun r1 M2 =>
  (¬ r1 = 0 →
   wp_X12_in (fun r3 M4 =>
    (¬ r3 = 0 →
     vp_in v1 4 ∧
     (((rd M4 35 v1.toNatClampNeg) + v2) ≤ 99 →
      vp_in v1 4 ∧
      vp_in v1 4 ∧
      ∀ M5 : Mem, M5 = wr M4 35 v1.toNatClampNeg ((rd M4 35 v1.toNatClampNeg) + v2) →
      vp_in v1 4 ∧
      Post (rd M5 35 v1.toNatClampNeg) M5) ∧
     (¬ ((rd M4 35 v1.toNatClampNeg) + v2) ≤ 99 →
      Post (-104) M4)) ∧
    (r3 = 0 →
     Post (-102) M4)) M2 (v2.toInt64) (1 : Int64) (9 : Int64)) ∧
  (r1 = 0 →
   Post (-101) M2)) M v1
theorem w_X12_earn (E : Ek) (l : Launch) {v1 : Int32} {v2 : Int32} {M : Mem} {Post : Int32 → Mem → Prop} (h : wp_X12_earn Post M v1 v2) : ctI E l yX12_earn cX12_earn 3 (some .int) 3 [.ref (ad E 29), .int v1, .int v2] M Post := by
  refine ct_of (by decide) (Nat.le_of_ble_eq_true rfl) (fun x X hQ => ?_)
  change G E x M 0 [(0, .ref (ad E 29)), (1, .int v1), (2, .int v2)] []
  refine g_aload_n X dX12_earn_0 rfl 0 rfl ?_
  refine g_iload_n X dX12_earn_1 rfl 1 rfl ?_
  refine cl_X12_215 X (by decide) (Nat.le_of_ble_eq_true rfl) dX12_earn_2 h (fun r1 M2 h => ?_)
  refine g_ifne (tgt := 11) X dX12_earn_5 (by decide) h (fun h => ?_) (fun h => ?_)
  · refine g_iload_n X dX12_earn_11 rfl 2 rfl ?_
    refine g_i2l X dX12_earn_12 ?_
    refine g_lconst (v := 1) X dX12_earn_13 (by decide) ?_
    refine g_ldc2 X dX12_earn_14 m658 ?_
    refine cl_X12_103 X (by decide) (Nat.le_of_ble_eq_true rfl) dX12_earn_17 h (fun r3 M4 h => ?_)
    refine g_ifne (tgt := 26) X dX12_earn_20 (by decide) h (fun h => ?_) (fun h => ?_)
    · refine g_aload_n X dX12_earn_26 rfl 0 rfl ?_
      refine fg_X12_25 X dX12_earn_27 ?_
      refine g_iload_n X dX12_earn_30 rfl 1 rfl ?_
      refine g_iald X ia_35 dX12_earn_31 h (fun h => ?_)
      refine g_iload_n X dX12_earn_32 rfl 2 rfl ?_
      refine g_iadd X dX12_earn_33 ?_
      refine g_bipush (v := 99) X dX12_earn_34 (by decide) ?_
      refine g_icmple (tgt := 42) X dX12_earn_36 (by decide) h (fun h => ?_) (fun h => ?_)
      · refine g_aload_n X dX12_earn_42 rfl 0 rfl ?_
        refine fg_X12_25 X dX12_earn_43 ?_
        refine g_iload_n X dX12_earn_46 rfl 1 rfl ?_
        refine g_dup2 X dX12_earn_47 rfl rfl ?_
        refine g_iald X ia_35 dX12_earn_48 h (fun h => ?_)
        refine g_iload_n X dX12_earn_49 rfl 2 rfl ?_
        refine g_iadd X dX12_earn_50 ?_
        refine g_iast X ia_35 dX12_earn_51 h (fun M5 h => ?_)
        refine g_aload_n X dX12_earn_52 rfl 0 rfl ?_
        refine fg_X12_25 X dX12_earn_53 ?_
        refine g_iload_n X dX12_earn_56 rfl 1 rfl ?_
        refine g_iald X ia_35 dX12_earn_57 h (fun h => ?_)
        exact g_iret X hQ dX12_earn_58 h
      · refine g_bipush (v := (-104)) X dX12_earn_39 (by decide) ?_
        exact g_iret X hQ dX12_earn_41 h
    · refine g_bipush (v := (-102)) X dX12_earn_23 (by decide) ?_
      exact g_iret X hQ dX12_earn_25 h
  · refine g_bipush (v := (-101)) X dX12_earn_8 (by decide) ?_
    exact g_iret X hQ dX12_earn_10 h
