theorem cw_X10_spread : CW yX10_spread cX10_spread 4 none 2 := ⟨m417, m290, Nat.le_of_ble_eq_true rfl, by decide +kernel⟩
def wp_X10_spread_b58 (Post : Mem → Prop) (o1 : Nat) (v2 : Int32) (P2 : Mem → Int32 → Prop) (P23 : Mem → Int32 → Prop) (P58 : Mem → Int32 → Prop) (M : Mem) (v3 : Int32) : Prop :=
 (6 ≤ v3 →
  Post M) ∧
 (¬ 6 ≤ v3 →
  vp_in v3 6 ∧
  vp_in v3 6 ∧
  ∀ M7 : Mem, M7 = wr M 17 v3.toNatClampNeg (rd M 18 v3.toNatClampNeg) →
  ∀ x3_8 : Int32, x3_8 = v3 + 1 →
  P58 M7 x3_8)
def wp_X10_spread_b23 (Post : Mem → Prop) (o1 : Nat) (v2 : Int32) (P2 : Mem → Int32 → Prop) (P23 : Mem → Int32 → Prop) (P58 : Mem → Int32 → Prop) (M : Mem) (v3 : Int32) : Prop :=
 ((rd M 3 0) ≤ v3 →
  P58 M 0) ∧
 (¬ (rd M 3 0) ≤ v3 →
  vp_in v3 6 ∧
  ((rd M 17 v3.toNatClampNeg) ≤ 0 →
   ∀ x3_3 : Int32, x3_3 = v3 + 1 →
   P23 M x3_3) ∧
  (¬ (rd M 17 v3.toNatClampNeg) ≤ 0 →
   wp_X10_spreadFrom (fun M5 =>
    ∀ x3_6 : Int32, x3_6 = v3 + 1 →
    P23 M5 x3_6) M o1 v2 v3))
def wp_X10_spread_b2 (Post : Mem → Prop) (o1 : Nat) (v2 : Int32) (P2 : Mem → Int32 → Prop) (P23 : Mem → Int32 → Prop) (P58 : Mem → Int32 → Prop) (M : Mem) (v3 : Int32) : Prop :=
 (6 ≤ v3 →
  P23 M 0) ∧
 (¬ 6 ≤ v3 →
  vp_in v3 6 ∧
  ∀ M1 : Mem, M1 = wr M 18 v3.toNatClampNeg 0 →
  ∀ x3_2 : Int32, x3_2 = v3 + 1 →
  P2 M1 x3_2)
def wp_X10_spread (Post : Mem → Prop) (M : Mem) (o1 : Nat) (v2 : Int32) : Prop :=
 ∀ (P2 : Mem → Int32 → Prop) (P23 : Mem → Int32 → Prop) (P58 : Mem → Int32 → Prop) ,
  (∀ (M : Mem) (v3 : Int32), wp_X10_spread_b2 Post o1 v2 P2 P23 P58 M v3 → P2 M v3) →
  (∀ (M : Mem) (v3 : Int32), wp_X10_spread_b23 Post o1 v2 P2 P23 P58 M v3 → P23 M v3) →
  (∀ (M : Mem) (v3 : Int32), wp_X10_spread_b58 Post o1 v2 P2 P23 P58 M v3 → P58 M v3) →
 P2 M 0
theorem k_X10_spread_b58 {E : Ek} {x : MC} (X : Cx E x cX10_spread 4 RX10 4) {Post : Mem → Prop} (hQ : QV E x Post none) {o1 : Nat} {v2 : Int32} (ho1 : Aff o1) {M : Mem} {v3 : Int32} (h : wp_X10_spread_b58 Post o1 v2 (fun M v3 => G E x M 2 [(0, .ref (ad E 15)), (1, .ref (ad E o1)), (2, .int v2), (3, .int v3)] []) (fun M v3 => G E x M 23 [(0, .ref (ad E 15)), (1, .ref (ad E o1)), (2, .int v2), (3, .int v3)] []) (fun M v3 => G E x M 58 [(0, .ref (ad E 15)), (3, .int v3)] []) M v3) : G E x M 58 [(0, .ref (ad E 15)), (3, .int v3)] [] := by
  refine g_iload_n X dX10_spread_58 rfl 1 rfl ?_
  refine g_bipush (v := 6) X dX10_spread_59 (by decide) ?_
  refine g_icmpge (tgt := 82) X dX10_spread_61 (by decide) h (fun h => ?_) (fun h => ?_)
  · exact g_vret X hQ dX10_spread_82 h
  · refine g_aload_n X dX10_spread_64 rfl 0 rfl ?_
    refine fg_X10_15 X dX10_spread_65 ?_
    refine g_iload_n X dX10_spread_68 rfl 1 rfl ?_
    refine g_aload_n X dX10_spread_69 rfl 0 rfl ?_
    refine fg_X10_18 X dX10_spread_70 ?_
    refine g_iload_n X dX10_spread_73 rfl 1 rfl ?_
    refine g_iald X ia_18 dX10_spread_74 h (fun h => ?_)
    refine g_iast X ia_17 dX10_spread_75 h (fun M7 h => ?_)
    refine g_iinc (w := 1) X dX10_spread_76 1 rfl (by decide) (Nat.le_of_ble_eq_true rfl) rfl (fun x3_8 => [(0, .ref (ad E 15)), (3, .int x3_8)]) (fun _ => rfl) h (fun x3_8 h => ?_)
    refine g_goto (tgt := 58) X dX10_spread_79 (by decide) ?_
    exact h
theorem k_X10_spread_b23 {E : Ek} {x : MC} (X : Cx E x cX10_spread 4 RX10 4) {Post : Mem → Prop} (hQ : QV E x Post none) {o1 : Nat} {v2 : Int32} (ho1 : Aff o1) {M : Mem} {v3 : Int32} (h : wp_X10_spread_b23 Post o1 v2 (fun M v3 => G E x M 2 [(0, .ref (ad E 15)), (1, .ref (ad E o1)), (2, .int v2), (3, .int v3)] []) (fun M v3 => G E x M 23 [(0, .ref (ad E 15)), (1, .ref (ad E o1)), (2, .int v2), (3, .int v3)] []) (fun M v3 => G E x M 58 [(0, .ref (ad E 15)), (3, .int v3)] []) M v3) : G E x M 23 [(0, .ref (ad E 15)), (1, .ref (ad E o1)), (2, .int v2), (3, .int v3)] [] := by
  refine g_iload_n X dX10_spread_23 rfl 3 rfl ?_
  refine g_aload_n X dX10_spread_24 rfl 0 rfl ?_
  refine fg_X10_21 X dX10_spread_25 ?_
  refine fg_X10_44 X dX10_spread_28 ?_
  refine g_icmpge (tgt := 56) X dX10_spread_31 (by decide) h (fun h => ?_) (fun h => ?_)
  · refine g_iconst (v := 0) X dX10_spread_56 (by decide) ?_
    refine g_istore_n (lv' := [(0, .ref (ad E 15)), (1, .ref (ad E o1)), (2, .int v2), (3, .int 0)]) X dX10_spread_57 rfl (Nat.le_of_ble_eq_true rfl) rfl rfl ?_
    exact g_sub [0, 3] rfl h
  · refine g_aload_n X dX10_spread_34 rfl 0 rfl ?_
    refine fg_X10_15 X dX10_spread_35 ?_
    refine g_iload_n X dX10_spread_38 rfl 3 rfl ?_
    refine g_iald X ia_17 dX10_spread_39 h (fun h => ?_)
    refine g_ifle (tgt := 50) X dX10_spread_40 (by decide) h (fun h => ?_) (fun h => ?_)
    · refine g_iinc (w := 1) X dX10_spread_50 3 rfl (by decide) (Nat.le_of_ble_eq_true rfl) rfl (fun x3_3 => [(0, .ref (ad E 15)), (1, .ref (ad E o1)), (2, .int v2), (3, .int x3_3)]) (fun _ => rfl) h (fun x3_3 h => ?_)
      refine g_goto (tgt := 23) X dX10_spread_53 (by decide) ?_
      exact h
    · refine g_aload_n X dX10_spread_43 rfl 0 rfl ?_
      refine g_aload_n X dX10_spread_44 rfl 1 rfl ?_
      refine g_iload_n X dX10_spread_45 rfl 2 rfl ?_
      refine g_iload_n X dX10_spread_46 rfl 3 rfl ?_
      refine cl_X10_73 X ho1 (by decide) (Nat.le_of_ble_eq_true rfl) dX10_spread_47 h (fun M5 h => ?_)
      refine g_iinc (w := 1) X dX10_spread_50 3 rfl (by decide) (Nat.le_of_ble_eq_true rfl) rfl (fun x3_6 => [(0, .ref (ad E 15)), (1, .ref (ad E o1)), (2, .int v2), (3, .int x3_6)]) (fun _ => rfl) h (fun x3_6 h => ?_)
      refine g_goto (tgt := 23) X dX10_spread_53 (by decide) ?_
      exact h
theorem k_X10_spread_b2 {E : Ek} {x : MC} (X : Cx E x cX10_spread 4 RX10 4) {Post : Mem → Prop} (hQ : QV E x Post none) {o1 : Nat} {v2 : Int32} (ho1 : Aff o1) {M : Mem} {v3 : Int32} (h : wp_X10_spread_b2 Post o1 v2 (fun M v3 => G E x M 2 [(0, .ref (ad E 15)), (1, .ref (ad E o1)), (2, .int v2), (3, .int v3)] []) (fun M v3 => G E x M 23 [(0, .ref (ad E 15)), (1, .ref (ad E o1)), (2, .int v2), (3, .int v3)] []) (fun M v3 => G E x M 58 [(0, .ref (ad E 15)), (3, .int v3)] []) M v3) : G E x M 2 [(0, .ref (ad E 15)), (1, .ref (ad E o1)), (2, .int v2), (3, .int v3)] [] := by
  refine g_iload_n X dX10_spread_2 rfl 3 rfl ?_
  refine g_bipush (v := 6) X dX10_spread_3 (by decide) ?_
  refine g_icmpge (tgt := 21) X dX10_spread_5 (by decide) h (fun h => ?_) (fun h => ?_)
  · refine g_iconst (v := 0) X dX10_spread_21 (by decide) ?_
    refine g_istore_n (lv' := [(0, .ref (ad E 15)), (1, .ref (ad E o1)), (2, .int v2), (3, .int 0)]) X dX10_spread_22 rfl (Nat.le_of_ble_eq_true rfl) rfl rfl ?_
    exact h
  · refine g_aload_n X dX10_spread_8 rfl 0 rfl ?_
    refine fg_X10_18 X dX10_spread_9 ?_
    refine g_iload_n X dX10_spread_12 rfl 3 rfl ?_
    refine g_iconst (v := 0) X dX10_spread_13 (by decide) ?_
    refine g_iast X ia_18 dX10_spread_14 h (fun M1 h => ?_)
    refine g_iinc (w := 1) X dX10_spread_15 3 rfl (by decide) (Nat.le_of_ble_eq_true rfl) rfl (fun x3_2 => [(0, .ref (ad E 15)), (1, .ref (ad E o1)), (2, .int v2), (3, .int x3_2)]) (fun _ => rfl) h (fun x3_2 h => ?_)
    refine g_goto (tgt := 2) X dX10_spread_18 (by decide) ?_
    exact h
theorem w_X10_spread (E : Ek) (l : Launch) {o1 : Nat} {v2 : Int32} (ho1 : Aff o1) {M : Mem} {Post : Mem → Prop} (h : wp_X10_spread Post M o1 v2) : ctV E l yX10_spread cX10_spread 4 none 4 [.ref (ad E 15), .ref (ad E o1), .int v2] M Post := by
  refine ct_of (by decide) (Nat.le_of_ble_eq_true rfl) (fun x X hQ => ?_)
  have h := h (fun M v3 => G E x M 2 [(0, .ref (ad E 15)), (1, .ref (ad E o1)), (2, .int v2), (3, .int v3)] []) (fun M v3 => G E x M 23 [(0, .ref (ad E 15)), (1, .ref (ad E o1)), (2, .int v2), (3, .int v3)] []) (fun M v3 => G E x M 58 [(0, .ref (ad E 15)), (3, .int v3)] []) (fun M v3 h => k_X10_spread_b2 X hQ ho1 h) (fun M v3 h => k_X10_spread_b23 X hQ ho1 h) (fun M v3 h => k_X10_spread_b58 X hQ ho1 h)
  change G E x M 0 [(0, .ref (ad E 15)), (1, .ref (ad E o1)), (2, .int v2)] []
  refine g_iconst (v := 0) X dX10_spread_0 (by decide) ?_
  refine g_istore_n (lv' := [(0, .ref (ad E 15)), (1, .ref (ad E o1)), (2, .int v2), (3, .int 0)]) X dX10_spread_1 rfl (Nat.le_of_ble_eq_true rfl) rfl rfl ?_
  exact h
theorem cl_X10_69 {E : Ek} {x : MC} {cc : ByteArray} {nL hm pc : Nat} {M : Mem} {lv : List (Nat × Value)} {st : List Value} (X : Cx E x cc nL RX10 hm) {o1 : Nat} {v2 : Int32} (ho1 : Aff o1) {Post : Mem → Prop} (hr : 4 < hm) (hW : (st.map fun v => v.category).sum ≤ 8) (hd : decode cc pc = .ok (.invokevirtual 69, 3)) (h : wp_X10_spread Post M o1 v2) (kk : ∀ M1, Post M1 → G E x M1 (pc + 3) lv st) : G E x M pc lv (.int v2 :: .ref (ad E o1) :: .ref (ad E 15) :: st) := k_V (fun hP hS hL => run_V X (w_X10_spread E (xl x) ho1 h) cw_X10_spread m419 m420 m421 (⟨by decide, fun E f h => ⟨_, _, _, rfl, rfl, rfl⟩⟩ : OC 15 RX10) hr rfl hd hW hP hS hL) kk
theorem cw_X10_metParts : CW yX10_metParts cX10_metParts 8 (some .int) 4 := ⟨m422, m290, Nat.le_of_ble_eq_true rfl, by decide +kernel⟩
def wp_X10_metParts_b56 (Post : Int32 → Mem → Prop) (o1 : Nat) (v2 : Int32) (v3 : Int32) (v4 : Int32) (P20 : Mem → Int32 → Int32 → Prop) (P56 : Mem → Int32 → Int32 → Prop) (M : Mem) (v6 : Int32) (v7 : Int32) : Prop :=
 (v4 ≤ v7 →
  Post v6 M) ∧
 (¬ v4 ≤ v7 →
  wp_X10_spread (fun M6 =>
   vp_in v3 6 ∧
   ∀ x6_7 : Int32, x6_7 = v6 + (rd M6 17 v3.toNatClampNeg) →
   vp_in v3 6 ∧
   ∀ M8 : Mem, M8 = wr M6 17 v3.toNatClampNeg 0 →
   ∀ x7_9 : Int32, x7_9 = v7 + 1 →
   P56 M8 x6_7 x7_9) M o1 v2)
def wp_X10_metParts_b20 (Post : Int32 → Mem → Prop) (o1 : Nat) (v2 : Int32) (v3 : Int32) (v4 : Int32) (P20 : Mem → Int32 → Int32 → Prop) (P56 : Mem → Int32 → Int32 → Prop) (M : Mem) (v5 : Int32) (v6 : Int32) : Prop :=
 (6 ≤ v6 →
  vp_in v5 6 ∧
  ∀ M2 : Mem, M2 = wr M 17 v5.toNatClampNeg 216000 →
  P56 M2 0 0) ∧
 (¬ 6 ≤ v6 →
  vp_in v6 6 ∧
  ∀ M3 : Mem, M3 = wr M 17 v6.toNatClampNeg 0 →
  ∀ x6_4 : Int32, x6_4 = v6 + 1 →
  P20 M3 v5 x6_4)
def wp_X10_metParts (Post : Int32 → Mem → Prop) (M : Mem) (o1 : Nat) (v2 : Int32) (v3 : Int32) (v4 : Int32) : Prop :=
 ∀ (P20 : Mem → Int32 → Int32 → Prop) (P56 : Mem → Int32 → Int32 → Prop) ,
  (∀ (M : Mem) (v5 : Int32) (v6 : Int32), wp_X10_metParts_b20 Post o1 v2 v3 v4 P20 P56 M v5 v6 → P20 M v5 v6) →
  (∀ (M : Mem) (v6 : Int32) (v7 : Int32), wp_X10_metParts_b56 Post o1 v2 v3 v4 P20 P56 M v6 v7 → P56 M v6 v7) →
 vp_in v2 4 ∧
 ∀ x5_1 : Int32, x5_1 = rd M (o1 + 2) v2.toNatClampNeg →
 (¬ x5_1 = v3 →
  P20 M x5_1 0) ∧
 (x5_1 = v3 →
  Post 216000 M)
theorem k_X10_metParts_b56 {E : Ek} {x : MC} (X : Cx E x cX10_metParts 8 RX10 5) {Post : Int32 → Mem → Prop} (hQ : QI E x Post (some .int)) {o1 : Nat} {v2 : Int32} {v3 : Int32} {v4 : Int32} (ho1 : Aff o1) {M : Mem} {v6 : Int32} {v7 : Int32} (h : wp_X10_metParts_b56 Post o1 v2 v3 v4 (fun M v5 v6 => G E x M 20 [(0, .ref (ad E 15)), (1, .ref (ad E o1)), (2, .int v2), (3, .int v3), (4, .int v4), (5, .int v5), (6, .int v6)] []) (fun M v6 v7 => G E x M 56 [(0, .ref (ad E 15)), (1, .ref (ad E o1)), (2, .int v2), (3, .int v3), (4, .int v4), (6, .int v6), (7, .int v7)] []) M v6 v7) : G E x M 56 [(0, .ref (ad E 15)), (1, .ref (ad E o1)), (2, .int v2), (3, .int v3), (4, .int v4), (6, .int v6), (7, .int v7)] [] := by
  refine g_iload X dX10_metParts_56 6 rfl ?_
  refine g_iload X dX10_metParts_58 4 rfl ?_
  refine g_icmpge (tgt := 93) X dX10_metParts_60 (by decide) h (fun h => ?_) (fun h => ?_)
  · refine g_iload X dX10_metParts_93 5 rfl ?_
    exact g_iret X hQ dX10_metParts_95 h
  · refine g_aload_n X dX10_metParts_63 rfl 0 rfl ?_
    refine g_aload_n X dX10_metParts_64 rfl 1 rfl ?_
    refine g_iload_n X dX10_metParts_65 rfl 2 rfl ?_
    refine cl_X10_69 X ho1 (by decide) (Nat.le_of_ble_eq_true rfl) dX10_metParts_66 h (fun M6 h => ?_)
    refine g_iload X dX10_metParts_69 5 rfl ?_
    refine g_aload_n X dX10_metParts_71 rfl 0 rfl ?_
    refine fg_X10_15 X dX10_metParts_72 ?_
    refine g_iload_n X dX10_metParts_75 rfl 3 rfl ?_
    refine g_iald X ia_17 dX10_metParts_76 h (fun h => ?_)
    refine g_iadd X dX10_metParts_77 ?_
    refine g_nm h (fun x6_7 h => ?_)
    refine g_istore (lv' := [(0, .ref (ad E 15)), (1, .ref (ad E o1)), (2, .int v2), (3, .int v3), (4, .int v4), (6, .int x6_7), (7, .int v7)]) X dX10_metParts_78 (Nat.le_of_ble_eq_true rfl) rfl rfl ?_
    refine g_aload_n X dX10_metParts_80 rfl 0 rfl ?_
    refine fg_X10_15 X dX10_metParts_81 ?_
    refine g_iload_n X dX10_metParts_84 rfl 3 rfl ?_
    refine g_iconst (v := 0) X dX10_metParts_85 (by decide) ?_
    refine g_iast X ia_17 dX10_metParts_86 h (fun M8 h => ?_)
    refine g_iinc (w := 1) X dX10_metParts_87 6 rfl (by decide) (Nat.le_of_ble_eq_true rfl) rfl (fun x7_9 => [(0, .ref (ad E 15)), (1, .ref (ad E o1)), (2, .int v2), (3, .int v3), (4, .int v4), (6, .int x6_7), (7, .int x7_9)]) (fun _ => rfl) h (fun x7_9 h => ?_)
    refine g_goto (tgt := 56) X dX10_metParts_90 (by decide) ?_
    exact h
theorem k_X10_metParts_b20 {E : Ek} {x : MC} (X : Cx E x cX10_metParts 8 RX10 5) {Post : Int32 → Mem → Prop} (hQ : QI E x Post (some .int)) {o1 : Nat} {v2 : Int32} {v3 : Int32} {v4 : Int32} (ho1 : Aff o1) {M : Mem} {v5 : Int32} {v6 : Int32} (h : wp_X10_metParts_b20 Post o1 v2 v3 v4 (fun M v5 v6 => G E x M 20 [(0, .ref (ad E 15)), (1, .ref (ad E o1)), (2, .int v2), (3, .int v3), (4, .int v4), (5, .int v5), (6, .int v6)] []) (fun M v6 v7 => G E x M 56 [(0, .ref (ad E 15)), (1, .ref (ad E o1)), (2, .int v2), (3, .int v3), (4, .int v4), (6, .int v6), (7, .int v7)] []) M v5 v6) : G E x M 20 [(0, .ref (ad E 15)), (1, .ref (ad E o1)), (2, .int v2), (3, .int v3), (4, .int v4), (5, .int v5), (6, .int v6)] [] := by
  refine g_iload X dX10_metParts_20 6 rfl ?_
  refine g_bipush (v := 6) X dX10_metParts_22 (by decide) ?_
  refine g_icmpge (tgt := 41) X dX10_metParts_24 (by decide) h (fun h => ?_) (fun h => ?_)
  · refine g_aload_n X dX10_metParts_41 rfl 0 rfl ?_
    refine fg_X10_15 X dX10_metParts_42 ?_
    refine g_iload X dX10_metParts_45 5 rfl ?_
    refine g_ldc X dX10_metParts_47 m418 ?_
    refine g_iast X ia_17 dX10_metParts_49 h (fun M2 h => ?_)
    refine g_iconst (v := 0) X dX10_metParts_50 (by decide) ?_
    refine g_istore (lv' := [(0, .ref (ad E 15)), (1, .ref (ad E o1)), (2, .int v2), (3, .int v3), (4, .int v4), (5, .int v5), (6, .int 0)]) X dX10_metParts_51 (Nat.le_of_ble_eq_true rfl) rfl rfl ?_
    refine g_iconst (v := 0) X dX10_metParts_53 (by decide) ?_
    refine g_istore (lv' := [(0, .ref (ad E 15)), (1, .ref (ad E o1)), (2, .int v2), (3, .int v3), (4, .int v4), (5, .int v5), (6, .int 0), (7, .int 0)]) X dX10_metParts_54 (Nat.le_of_ble_eq_true rfl) rfl rfl ?_
    exact g_sub [0, 1, 2, 3, 4, 6, 7] rfl h
  · refine g_aload_n X dX10_metParts_27 rfl 0 rfl ?_
    refine fg_X10_15 X dX10_metParts_28 ?_
    refine g_iload X dX10_metParts_31 6 rfl ?_
    refine g_iconst (v := 0) X dX10_metParts_33 (by decide) ?_
    refine g_iast X ia_17 dX10_metParts_34 h (fun M3 h => ?_)
    refine g_iinc (w := 1) X dX10_metParts_35 6 rfl (by decide) (Nat.le_of_ble_eq_true rfl) rfl (fun x6_4 => [(0, .ref (ad E 15)), (1, .ref (ad E o1)), (2, .int v2), (3, .int v3), (4, .int v4), (5, .int v5), (6, .int x6_4)]) (fun _ => rfl) h (fun x6_4 h => ?_)
    refine g_goto (tgt := 20) X dX10_metParts_38 (by decide) ?_
    exact h
theorem w_X10_metParts (E : Ek) (l : Launch) {o1 : Nat} {v2 : Int32} {v3 : Int32} {v4 : Int32} (ho1 : Aff o1) {M : Mem} {Post : Int32 → Mem → Prop} (h : wp_X10_metParts Post M o1 v2 v3 v4) : ctI E l yX10_metParts cX10_metParts 8 (some .int) 5 [.ref (ad E 15), .ref (ad E o1), .int v2, .int v3, .int v4] M Post := by
  refine ct_of (by decide) (Nat.le_of_ble_eq_true rfl) (fun x X hQ => ?_)
  have h := h (fun M v5 v6 => G E x M 20 [(0, .ref (ad E 15)), (1, .ref (ad E o1)), (2, .int v2), (3, .int v3), (4, .int v4), (5, .int v5), (6, .int v6)] []) (fun M v6 v7 => G E x M 56 [(0, .ref (ad E 15)), (1, .ref (ad E o1)), (2, .int v2), (3, .int v3), (4, .int v4), (6, .int v6), (7, .int v7)] []) (fun M v5 v6 h => k_X10_metParts_b20 X hQ ho1 h) (fun M v6 v7 h => k_X10_metParts_b56 X hQ ho1 h)
  change G E x M 0 [(0, .ref (ad E 15)), (1, .ref (ad E o1)), (2, .int v2), (3, .int v3), (4, .int v4)] []
  refine g_aload_n X dX10_metParts_0 rfl 1 rfl ?_
  refine fg_X10_29 X ho1 dX10_metParts_1 ?_
  refine g_iload_n X dX10_metParts_4 rfl 2 rfl ?_
  refine g_iald X (af_ia2 ho1) dX10_metParts_5 h (fun h => ?_)
  refine g_nm h (fun x5_1 h => ?_)
  refine g_istore (lv' := [(0, .ref (ad E 15)), (1, .ref (ad E o1)), (2, .int v2), (3, .int v3), (4, .int v4), (5, .int x5_1)]) X dX10_metParts_6 (Nat.le_of_ble_eq_true rfl) rfl rfl ?_
  refine g_iload X dX10_metParts_8 5 rfl ?_
  refine g_iload_n X dX10_metParts_10 rfl 3 rfl ?_
  refine g_icmpne (tgt := 17) X dX10_metParts_11 (by decide) h (fun h => ?_) (fun h => ?_)
  · refine g_iconst (v := 0) X dX10_metParts_17 (by decide) ?_
    refine g_istore (lv' := [(0, .ref (ad E 15)), (1, .ref (ad E o1)), (2, .int v2), (3, .int v3), (4, .int v4), (5, .int x5_1), (6, .int 0)]) X dX10_metParts_18 (Nat.le_of_ble_eq_true rfl) rfl rfl ?_
    exact h
  · refine g_ldc X dX10_metParts_14 m418 ?_
    exact g_iret X hQ dX10_metParts_16 h
theorem cl_X11_225 {E : Ek} {x : MC} {cc : ByteArray} {nL hm pc : Nat} {M : Mem} {lv : List (Nat × Value)} {st : List Value} (X : Cx E x cc nL RX11 hm) {o1 : Nat} {v2 : Int32} {v3 : Int32} {v4 : Int32} (ho1 : Aff o1) {Post : Int32 → Mem → Prop} (hr : 5 < hm) (hW : (st.map fun v => v.category).sum ≤ 8) (hd : decode cc pc = .ok (.invokevirtual 225, 3)) (h : wp_X10_metParts Post M o1 v2 v3 v4) (kk : ∀ r M1, Post r M1 → G E x M1 (pc + 3) lv (.int r :: st)) : G E x M pc lv (.int v4 :: .int v3 :: .int v2 :: .ref (ad E o1) :: .ref (ad E 15) :: st) := k_I (fun hP hS hL => run_VN X (w_X10_metParts E (xl x) ho1 h) cw_X10_metParts m424 m425 m426 (⟨by decide, fun E f h => ⟨_, _, _, rfl, rfl, rfl⟩⟩ : OC 15 RX10) hr rfl hd hW hP hS hL) kk
theorem cw_X11_commonDivisor : CW yX11_commonDivisor cX11_commonDivisor 6 (some .int) 2 := ⟨m423, m10, Nat.le_of_ble_eq_true rfl, by decide +kernel⟩
def wp_X11_commonDivisor_b34 (Post : Int32 → Mem → Prop) (v0 : Int32) (v1 : Int32) (P7 : Mem → Int32 → Int32 → Int32 → Prop) (M : Mem) (v2 : Int32) : Prop :=
 (v2 ≤ 0 →
  Post 1 M) ∧
 (¬ v2 ≤ 0 →
  Post v2 M)
def wp_X11_commonDivisor_b7 (Post : Int32 → Mem → Prop) (v0 : Int32) (v1 : Int32) (P7 : Mem → Int32 → Int32 → Int32 → Prop) (M : Mem) (v2 : Int32) (v3 : Int32) (v4 : Int32) : Prop :=
 (64 ≤ v4 →
  wp_X11_commonDivisor_b34 Post v0 v1 P7 M v2) ∧
 (¬ 64 ≤ v4 →
  (v3 ≤ 0 →
   wp_X11_commonDivisor_b34 Post v0 v1 P7 M v2) ∧
  (¬ v3 ≤ 0 →
   ¬ v3 = 0 ∧
   ∀ x5_1 : Int32, x5_1 = v2 - v2 / v3 * v3 →
   ∀ x4_2 : Int32, x4_2 = v4 + 1 →
   P7 M v3 x5_1 x4_2))
def wp_X11_commonDivisor (Post : Int32 → Mem → Prop) (M : Mem) (v0 : Int32) (v1 : Int32) : Prop :=
 ∀ (P7 : Mem → Int32 → Int32 → Int32 → Prop) ,
  (∀ (M : Mem) (v2 : Int32) (v3 : Int32) (v4 : Int32), wp_X11_commonDivisor_b7 Post v0 v1 P7 M v2 v3 v4 → P7 M v2 v3 v4) →
 P7 M v1 v0 0
theorem k_X11_commonDivisor_b34 {E : Ek} {x : MC} (X : Cx E x cX11_commonDivisor 6 RX11 1) {Post : Int32 → Mem → Prop} (hQ : QI E x Post (some .int)) {v0 : Int32} {v1 : Int32} {M : Mem} {v2 : Int32} (h : wp_X11_commonDivisor_b34 Post v0 v1 (fun M v2 v3 v4 => G E x M 7 [(2, .int v2), (3, .int v3), (4, .int v4)] []) M v2) : G E x M 34 [(2, .int v2)] [] := by
  refine g_iload_n X dX11_commonDivisor_34 rfl 0 rfl ?_
  refine g_ifle (tgt := 42) X dX11_commonDivisor_35 (by decide) h (fun h => ?_) (fun h => ?_)
  · refine g_iconst (v := 1) X dX11_commonDivisor_42 (by decide) ?_
    exact g_iret X hQ dX11_commonDivisor_43 h
  · refine g_iload_n X dX11_commonDivisor_38 rfl 0 rfl ?_
    refine g_goto (tgt := 43) X dX11_commonDivisor_39 (by decide) ?_
    exact g_iret X hQ dX11_commonDivisor_43 h
theorem k_X11_commonDivisor_b7 {E : Ek} {x : MC} (X : Cx E x cX11_commonDivisor 6 RX11 1) {Post : Int32 → Mem → Prop} (hQ : QI E x Post (some .int)) {v0 : Int32} {v1 : Int32} {M : Mem} {v2 : Int32} {v3 : Int32} {v4 : Int32} (h : wp_X11_commonDivisor_b7 Post v0 v1 (fun M v2 v3 v4 => G E x M 7 [(2, .int v2), (3, .int v3), (4, .int v4)] []) M v2 v3 v4) : G E x M 7 [(2, .int v2), (3, .int v3), (4, .int v4)] [] := by
  refine g_iload X dX11_commonDivisor_7 2 rfl ?_
  refine g_bipush (v := 64) X dX11_commonDivisor_9 (by decide) ?_
  refine g_icmpge (tgt := 34) X dX11_commonDivisor_11 (by decide) h (fun h => ?_) (fun h => ?_)
  · exact g_sub [0] rfl (k_X11_commonDivisor_b34 X hQ  h)
  · refine g_iload_n X dX11_commonDivisor_14 rfl 1 rfl ?_
    refine g_ifle (tgt := 34) X dX11_commonDivisor_15 (by decide) h (fun h => ?_) (fun h => ?_)
    · exact g_sub [0] rfl (k_X11_commonDivisor_b34 X hQ  h)
    · refine g_iload_n X dX11_commonDivisor_18 rfl 0 rfl ?_
      refine g_iload_n X dX11_commonDivisor_19 rfl 1 rfl ?_
      refine g_irem X dX11_commonDivisor_20 h (fun h => ?_)
      refine g_nm h (fun x5_1 h => ?_)
      refine g_istore (lv' := [(2, .int v2), (3, .int v3), (4, .int v4), (5, .int x5_1)]) X dX11_commonDivisor_21 (Nat.le_of_ble_eq_true rfl) rfl rfl ?_
      refine g_iload_n X dX11_commonDivisor_23 rfl 1 rfl ?_
      refine g_istore_n (lv' := [(2, .int v3), (3, .int v3), (4, .int v4), (5, .int x5_1)]) X dX11_commonDivisor_24 rfl (Nat.le_of_ble_eq_true rfl) rfl rfl ?_
      refine g_iload X dX11_commonDivisor_25 3 rfl ?_
      refine g_istore_n (lv' := [(2, .int v3), (3, .int x5_1), (4, .int v4), (5, .int x5_1)]) X dX11_commonDivisor_27 rfl (Nat.le_of_ble_eq_true rfl) rfl rfl ?_
      refine g_iinc (w := 1) X dX11_commonDivisor_28 2 rfl (by decide) (Nat.le_of_ble_eq_true rfl) rfl (fun x4_2 => [(2, .int v3), (3, .int x5_1), (4, .int x4_2), (5, .int x5_1)]) (fun _ => rfl) h (fun x4_2 h => ?_)
      refine g_goto (tgt := 7) X dX11_commonDivisor_31 (by decide) ?_
      exact g_sub [0, 1, 2] rfl h
theorem w_X11_commonDivisor (E : Ek) (l : Launch) {v0 : Int32} {v1 : Int32} {M : Mem} {Post : Int32 → Mem → Prop} (h : wp_X11_commonDivisor Post M v0 v1) : ctI E l yX11_commonDivisor cX11_commonDivisor 6 (some .int) 1 [.int v0, .int v1] M Post := by
  refine ct_of (by decide) (Nat.le_of_ble_eq_true rfl) (fun x X hQ => ?_)
  have h := h (fun M v2 v3 v4 => G E x M 7 [(2, .int v2), (3, .int v3), (4, .int v4)] []) (fun M v2 v3 v4 h => k_X11_commonDivisor_b7 X hQ  h)
  change G E x M 0 [(0, .int v0), (1, .int v1)] []
  refine g_iload_n X dX11_commonDivisor_0 rfl 1 rfl ?_
  refine g_istore_n (lv' := [(0, .int v0), (1, .int v1), (2, .int v1)]) X dX11_commonDivisor_1 rfl (Nat.le_of_ble_eq_true rfl) rfl rfl ?_
  refine g_iload_n X dX11_commonDivisor_2 rfl 0 rfl ?_
  refine g_istore_n (lv' := [(0, .int v0), (1, .int v1), (2, .int v1), (3, .int v0)]) X dX11_commonDivisor_3 rfl (Nat.le_of_ble_eq_true rfl) rfl rfl ?_
  refine g_iconst (v := 0) X dX11_commonDivisor_4 (by decide) ?_
  refine g_istore (lv' := [(0, .int v0), (1, .int v1), (2, .int v1), (3, .int v0), (4, .int 0)]) X dX11_commonDivisor_5 (Nat.le_of_ble_eq_true rfl) rfl rfl ?_
  exact g_sub [2, 3, 4] rfl h
theorem cl_X11_229 {E : Ek} {x : MC} {cc : ByteArray} {nL hm pc : Nat} {M : Mem} {lv : List (Nat × Value)} {st : List Value} (X : Cx E x cc nL RX11 hm) {v0 : Int32} {v1 : Int32} {Post : Int32 → Mem → Prop} (hr : 1 < hm) (hW : (st.map fun v => v.category).sum ≤ 8) (hd : decode cc pc = .ok (.invokestatic 229, 3)) (h : wp_X11_commonDivisor Post M v0 v1) (kk : ∀ r M1, Post r M1 → G E x M1 (pc + 3) lv (.int r :: st)) : G E x M pc lv (.int v1 :: .int v0 :: st) := k_I (fun hP hS hL => run_S X (w_X11_commonDivisor E (xl x)  h) cw_X11_commonDivisor m428 m429 hr rfl hd hW hP hS hL) kk
theorem cw_X11_met : CW yX11_met cX11_met 7 (some .int) 4 := ⟨m430, m10, Nat.le_of_ble_eq_true rfl, by decide +kernel⟩
def wp_X11_met (Post : Int32 → Mem → Prop) (M : Mem) (v1 : Int32) (v2 : Int32) (v3 : Int32) (v4 : Int32) : Prop :=
 wp_X11_isNobody (fun r1 M2 =>
  (¬ r1 = 0 →
   Post (-101) M2) ∧
  (r1 = 0 →
   wp_X11_isNobody (fun r3 M4 =>
    (¬ r3 = 0 →
     Post (-101) M4) ∧
    (r3 = 0 →
     (¬ v1 = v2 →
      (v3 < 1 →
       Post (-102) M4) ∧
      (¬ v3 < 1 →
       (3 < v3 →
        Post (-102) M4) ∧
       (¬ 3 < v3 →
        (v4 < 0 →
         Post (-102) M4) ∧
        (¬ v4 < 0 →
         (v4 ≤ 1 →
          vp_in v2 4 ∧
          wp_X10_metParts (fun r5 M6 =>
           wp_X11_commonDivisor (fun r7 M8 =>
            (¬ v4 = 0 →
             ¬ r7 = 0 ∧
             Post ((216000 : Int32) / r7) M8) ∧
            (v4 = 0 →
             ¬ r7 = 0 ∧
             Post (r5 / r7) M8)) M6 r5 216000) M4 59 v1 (rd M4 61 v2.toNatClampNeg) v3) ∧
         (¬ v4 ≤ 1 →
          Post (-102) M4))))) ∧
     (v1 = v2 →
      Post (-101) M4))) M2 v2)) M v1
theorem w_X11_met (E : Ek) (l : Launch) {v1 : Int32} {v2 : Int32} {v3 : Int32} {v4 : Int32} {M : Mem} {Post : Int32 → Mem → Prop} (h : wp_X11_met Post M v1 v2 v3 v4) : ctI E l yX11_met cX11_met 7 (some .int) 6 [.ref (ad E 0), .int v1, .int v2, .int v3, .int v4] M Post := by
  refine ct_of (by decide) (Nat.le_of_ble_eq_true rfl) (fun x X hQ => ?_)
  change G E x M 0 [(0, .ref (ad E 0)), (1, .int v1), (2, .int v2), (3, .int v3), (4, .int v4)] []
  refine g_aload_n X dX11_met_0 rfl 0 rfl ?_
  refine g_iload_n X dX11_met_1 rfl 1 rfl ?_
  refine cl_X11_93 X (by decide) (Nat.le_of_ble_eq_true rfl) dX11_met_2 h (fun r1 M2 h => ?_)
  refine g_ifne (tgt := 21) X dX11_met_5 (by decide) h (fun h => ?_) (fun h => ?_)
  · refine g_bipush (v := (-101)) X dX11_met_21 (by decide) ?_
    exact g_iret X hQ dX11_met_23 h
  · refine g_aload_n X dX11_met_8 rfl 0 rfl ?_
    refine g_iload_n X dX11_met_9 rfl 2 rfl ?_
    refine cl_X11_93 X (by decide) (Nat.le_of_ble_eq_true rfl) dX11_met_10 h (fun r3 M4 h => ?_)
    refine g_ifne (tgt := 21) X dX11_met_13 (by decide) h (fun h => ?_) (fun h => ?_)
    · refine g_bipush (v := (-101)) X dX11_met_21 (by decide) ?_
      exact g_iret X hQ dX11_met_23 h
    · refine g_iload_n X dX11_met_16 rfl 1 rfl ?_
      refine g_iload_n X dX11_met_17 rfl 2 rfl ?_
      refine g_icmpne (tgt := 24) X dX11_met_18 (by decide) h (fun h => ?_) (fun h => ?_)
      · refine g_iload_n X dX11_met_24 rfl 3 rfl ?_
        refine g_iconst (v := 1) X dX11_met_25 (by decide) ?_
        refine g_icmplt (tgt := 45) X dX11_met_26 (by decide) h (fun h => ?_) (fun h => ?_)
        · refine g_bipush (v := (-102)) X dX11_met_45 (by decide) ?_
          exact g_iret X hQ dX11_met_47 h
        · refine g_iload_n X dX11_met_29 rfl 3 rfl ?_
          refine g_iconst (v := 3) X dX11_met_30 (by decide) ?_
          refine g_icmpgt (tgt := 45) X dX11_met_31 (by decide) h (fun h => ?_) (fun h => ?_)
          · refine g_bipush (v := (-102)) X dX11_met_45 (by decide) ?_
            exact g_iret X hQ dX11_met_47 h
          · refine g_iload X dX11_met_34 4 rfl ?_
            refine g_iflt (tgt := 45) X dX11_met_36 (by decide) h (fun h => ?_) (fun h => ?_)
            · refine g_bipush (v := (-102)) X dX11_met_45 (by decide) ?_
              exact g_iret X hQ dX11_met_47 h
            · refine g_iload X dX11_met_39 4 rfl ?_
              refine g_iconst (v := 1) X dX11_met_41 (by decide) ?_
              refine g_icmple (tgt := 48) X dX11_met_42 (by decide) h (fun h => ?_) (fun h => ?_)
              · refine g_aload_n X dX11_met_48 rfl 0 rfl ?_
                refine fg_X11_41 X dX11_met_49 ?_
                refine g_aload_n X dX11_met_52 rfl 0 rfl ?_
                refine fg_X11_28 X dX11_met_53 ?_
                refine g_iload_n X dX11_met_56 rfl 1 rfl ?_
                refine g_aload_n X dX11_met_57 rfl 0 rfl ?_
                refine fg_X11_28 X dX11_met_58 ?_
                refine fg_X11_110 X aff_59 dX11_met_61 ?_
                refine g_iload_n X dX11_met_64 rfl 2 rfl ?_
                refine g_iald X (af_ia2 aff_59) dX11_met_65 h (fun h => ?_)
                refine g_iload_n X dX11_met_66 rfl 3 rfl ?_
                refine cl_X11_225 X aff_59 (by decide) (Nat.le_of_ble_eq_true rfl) dX11_met_67 h (fun r5 M6 h => ?_)
                refine g_istore (lv' := [(0, .ref (ad E 0)), (1, .int v1), (2, .int v2), (3, .int v3), (4, .int v4), (5, .int r5)]) X dX11_met_70 (Nat.le_of_ble_eq_true rfl) rfl rfl ?_
                refine g_iload X dX11_met_72 5 rfl ?_
                refine g_ldc X dX11_met_74 m427 ?_
                refine cl_X11_229 X (by decide) (Nat.le_of_ble_eq_true rfl) dX11_met_76 h (fun r7 M8 h => ?_)
                refine g_istore (lv' := [(0, .ref (ad E 0)), (1, .int v1), (2, .int v2), (3, .int v3), (4, .int v4), (5, .int r5), (6, .int r7)]) X dX11_met_79 (Nat.le_of_ble_eq_true rfl) rfl rfl ?_
                refine g_iload X dX11_met_81 4 rfl ?_
                refine g_ifne (tgt := 91) X dX11_met_83 (by decide) h (fun h => ?_) (fun h => ?_)
                · refine g_ldc X dX11_met_91 m427 ?_
                  refine g_iload X dX11_met_93 6 rfl ?_
                  refine g_idiv X dX11_met_95 h (fun h => ?_)
                  exact g_iret X hQ dX11_met_96 h
                · refine g_iload X dX11_met_86 5 rfl ?_
                  refine g_goto (tgt := 93) X dX11_met_88 (by decide) ?_
                  refine g_iload X dX11_met_93 6 rfl ?_
                  refine g_idiv X dX11_met_95 h (fun h => ?_)
                  exact g_iret X hQ dX11_met_96 h
              · refine g_bipush (v := (-102)) X dX11_met_45 (by decide) ?_
                exact g_iret X hQ dX11_met_47 h
      · refine g_bipush (v := (-101)) X dX11_met_21 (by decide) ?_
        exact g_iret X hQ dX11_met_23 h
theorem cl_X11_288 {E : Ek} {x : MC} {cc : ByteArray} {nL hm pc : Nat} {M : Mem} {lv : List (Nat × Value)} {st : List Value} (X : Cx E x cc nL RX11 hm) {v1 : Int32} {v2 : Int32} {v3 : Int32} {v4 : Int32} {Post : Int32 → Mem → Prop} (hr : 6 < hm) (hW : (st.map fun v => v.category).sum ≤ 8) (hd : decode cc pc = .ok (.invokevirtual 288, 3)) (h : wp_X11_met Post M v1 v2 v3 v4) (kk : ∀ r M1, Post r M1 → G E x M1 (pc + 3) lv (.int r :: st)) : G E x M pc lv (.int v4 :: .int v3 :: .int v2 :: .int v1 :: .ref (ad E 0) :: st) := k_I (fun hP hS hL => run_V X (w_X11_met E (xl x)  h) cw_X11_met m487 m488 m489 (⟨by decide, fun E f h => ⟨_, _, _, rfl, rfl, rfl⟩⟩ : OC 0 RX11) hr rfl hd hW hP hS hL) kk
theorem cw_X11_see : CW yX11_see cX11_see 3 (some .int) 2 := ⟨m434, m10, Nat.le_of_ble_eq_true rfl, by decide +kernel⟩
def wp_X11_see (Post : Int32 → Mem → Prop) (M : Mem) (v1 : Int32) (v2 : Int32) : Prop :=
 wp_X11_isNoDebt (fun r1 M2 =>
  (r1 = 0 →
   ((rd M2 59 8) < 6 →
    vp_in (rd M2 59 8) 6 ∧
    ∀ M3 : Mem, M3 = wr M2 65 (rd M2 59 8).toNatClampNeg v1 →
    vp_in (rd M3 59 8) 6 ∧
    ∀ M4 : Mem, M4 = wr M3 66 (rd M3 59 8).toNatClampNeg (vp_nar .boolean v2) →
    ∀ M5 : Mem, M5 = wr M4 59 8 ((rd M4 59 8) + 1) →
    Post (rd M5 59 8) M5) ∧
   (¬ (rd M2 59 8) < 6 →
    Post (-104) M2)) ∧
  (¬ r1 = 0 →
   Post (-101) M2)) M v1
theorem w_X11_see (E : Ek) (l : Launch) {v1 : Int32} {v2 : Int32} {M : Mem} {Post : Int32 → Mem → Prop} (h : wp_X11_see Post M v1 v2) : ctI E l yX11_see cX11_see 3 (some .int) 2 [.ref (ad E 0), .int v1, .int v2] M Post := by
  refine ct_of (by decide) (Nat.le_of_ble_eq_true rfl) (fun x X hQ => ?_)
  change G E x M 0 [(0, .ref (ad E 0)), (1, .int v1), (2, .int v2)] []
  refine g_aload_n X dX11_see_0 rfl 0 rfl ?_
  refine g_iload_n X dX11_see_1 rfl 1 rfl ?_
  refine cl_X11_148 X (by decide) (Nat.le_of_ble_eq_true rfl) dX11_see_2 h (fun r1 M2 h => ?_)
  refine g_ifeq (tgt := 11) X dX11_see_5 (by decide) h (fun h => ?_) (fun h => ?_)
  · refine g_aload_n X dX11_see_11 rfl 0 rfl ?_
    refine fg_X11_28 X dX11_see_12 ?_
    refine fg_X11_232 X aff_59 dX11_see_15 ?_
    refine g_bipush (v := 6) X dX11_see_18 (by decide) ?_
    refine g_icmplt (tgt := 26) X dX11_see_20 (by decide) h (fun h => ?_) (fun h => ?_)
    · refine g_aload_n X dX11_see_26 rfl 0 rfl ?_
      refine fg_X11_28 X dX11_see_27 ?_
      refine fg_X11_235 X aff_59 dX11_see_30 ?_
      refine g_aload_n X dX11_see_33 rfl 0 rfl ?_
      refine fg_X11_28 X dX11_see_34 ?_
      refine fg_X11_232 X aff_59 dX11_see_37 ?_
      refine g_iload_n X dX11_see_40 rfl 1 rfl ?_
      refine g_iast X (af_ia6 aff_59) dX11_see_41 h (fun M3 h => ?_)
      refine g_aload_n X dX11_see_42 rfl 0 rfl ?_
      refine fg_X11_28 X dX11_see_43 ?_
      refine fg_X11_238 X aff_59 dX11_see_46 ?_
      refine g_aload_n X dX11_see_49 rfl 0 rfl ?_
      refine fg_X11_28 X dX11_see_50 ?_
      refine fg_X11_232 X aff_59 dX11_see_53 ?_
      refine g_iload_n X dX11_see_56 rfl 2 rfl ?_
      refine g_zast X (af_za7 aff_59) dX11_see_57 h (fun M4 h => ?_)
      refine g_aload_n X dX11_see_58 rfl 0 rfl ?_
      refine fg_X11_28 X dX11_see_59 ?_
      refine g_dup X dX11_see_62 rfl ?_
      refine fg_X11_232 X aff_59 dX11_see_63 ?_
      refine g_iconst (v := 1) X dX11_see_66 (by decide) ?_
      refine g_iadd X dX11_see_67 ?_
      refine fp_X11_232 X aff_59 dX11_see_68 h (fun M5 h => ?_)
      refine g_aload_n X dX11_see_71 rfl 0 rfl ?_
      refine fg_X11_28 X dX11_see_72 ?_
      refine fg_X11_232 X aff_59 dX11_see_75 ?_
      exact g_iret X hQ dX11_see_78 h
    · refine g_bipush (v := (-104)) X dX11_see_23 (by decide) ?_
      exact g_iret X hQ dX11_see_25 h
  · refine g_bipush (v := (-101)) X dX11_see_8 (by decide) ?_
    exact g_iret X hQ dX11_see_10 h
theorem cw_X11_forget : CW yX11_forget cX11_forget 2 (some .int) 0 := ⟨m435, m10, Nat.le_of_ble_eq_true rfl, by decide +kernel⟩
def wp_X11_forget (Post : Int32 → Mem → Prop) (M : Mem) : Prop :=
 ∀ x1_1 : Int32, x1_1 = rd M 59 8 →
 ∀ M2 : Mem, M2 = wr M 59 8 0 →
 Post x1_1 M2
theorem w_X11_forget (E : Ek) (l : Launch) {M : Mem} {Post : Int32 → Mem → Prop} (h : wp_X11_forget Post M ) : ctI E l yX11_forget cX11_forget 2 (some .int) 1 [.ref (ad E 0)] M Post := by
  refine ct_of (by decide) (Nat.le_of_ble_eq_true rfl) (fun x X hQ => ?_)
  change G E x M 0 [(0, .ref (ad E 0))] []
  refine g_aload_n X dX11_forget_0 rfl 0 rfl ?_
  refine fg_X11_28 X dX11_forget_1 ?_
  refine fg_X11_232 X aff_59 dX11_forget_4 ?_
  refine g_nm h (fun x1_1 h => ?_)
  refine g_istore_n (lv' := [(0, .ref (ad E 0)), (1, .int x1_1)]) X dX11_forget_7 rfl (Nat.le_of_ble_eq_true rfl) rfl rfl ?_
  refine g_aload_n X dX11_forget_8 rfl 0 rfl ?_
  refine fg_X11_28 X dX11_forget_9 ?_
  refine g_iconst (v := 0) X dX11_forget_12 (by decide) ?_
  refine fp_X11_232 X aff_59 dX11_forget_13 h (fun M2 h => ?_)
  refine g_iload_n X dX11_forget_16 rfl 1 rfl ?_
  exact g_iret X hQ dX11_forget_17 h
theorem cw_X11_nextSeed : CW yX11_nextSeed cX11_nextSeed 1 (some .int) 1 := ⟨m439, m10, Nat.le_of_ble_eq_true rfl, by decide +kernel⟩
def wp_X11_nextSeed (Post : Int32 → Mem → Prop) (M : Mem) (v0 : Int32) : Prop :=
 Post (((((1103515245 : Int64) * (v0.toInt64)) + (12345 : Int64)) &&& (2147483647 : Int64)).toInt32) M
theorem w_X11_nextSeed (E : Ek) (l : Launch) {v0 : Int32} {M : Mem} {Post : Int32 → Mem → Prop} (h : wp_X11_nextSeed Post M v0) : ctI E l yX11_nextSeed cX11_nextSeed 1 (some .int) 1 [.int v0] M Post := by
  refine ct_of (by decide) (Nat.le_of_ble_eq_true rfl) (fun x X hQ => ?_)
  change G E x M 0 [(0, .int v0)] []
  refine g_ldc2 X dX11_nextSeed_0 m436 ?_
  refine g_iload_n X dX11_nextSeed_3 rfl 0 rfl ?_
  refine g_i2l X dX11_nextSeed_4 ?_
  refine g_lmul X dX11_nextSeed_5 ?_
  refine g_ldc2 X dX11_nextSeed_6 m437 ?_
  refine g_ladd X dX11_nextSeed_9 ?_
  refine g_ldc2 X dX11_nextSeed_10 m438 ?_
  refine g_land X dX11_nextSeed_13 ?_
  refine g_l2i X dX11_nextSeed_14 ?_
  exact g_iret X hQ dX11_nextSeed_15 h
theorem cl_X11_244 {E : Ek} {x : MC} {cc : ByteArray} {nL hm pc : Nat} {M : Mem} {lv : List (Nat × Value)} {st : List Value} (X : Cx E x cc nL RX11 hm) {v0 : Int32} {Post : Int32 → Mem → Prop} (hr : 1 < hm) (hW : (st.map fun v => v.category).sum ≤ 8) (hd : decode cc pc = .ok (.invokestatic 244, 3)) (h : wp_X11_nextSeed Post M v0) (kk : ∀ r M1, Post r M1 → G E x M1 (pc + 3) lv (.int r :: st)) : G E x M pc lv (.int v0 :: st) := k_I (fun hP hS hL => run_S X (w_X11_nextSeed E (xl x)  h) cw_X11_nextSeed m444 m445 hr rfl hd hW hP hS hL) kk
theorem cw_X0_paidDebts : CW yX0_paidDebts cX0_paidDebts 3 (some .int) 0 := ⟨m440, m144, Nat.le_of_ble_eq_true rfl, by decide +kernel⟩
def wp_X0_paidDebts_b4 (Post : Int32 → Mem → Prop) (o : Nat) (P4 : Mem → Int32 → Int32 → Prop) (M : Mem) (v1 : Int32) (v2 : Int32) : Prop :=
 ((rd M 3 3) ≤ v2 →
  Post v1 M) ∧
 (¬ (rd M 3 3) ≤ v2 →
  vp_in v2 4 ∧
  ((rd M (o + 5) v2.toNatClampNeg) = 0 →
   ∀ x1_1 : Int32, x1_1 = v1 + 0 →
   ∀ x2_2 : Int32, x2_2 = v2 + 1 →
   P4 M x1_1 x2_2) ∧
  (¬ (rd M (o + 5) v2.toNatClampNeg) = 0 →
   ∀ x1_3 : Int32, x1_3 = v1 + 1 →
   ∀ x2_4 : Int32, x2_4 = v2 + 1 →
   P4 M x1_3 x2_4))
def wp_X0_paidDebts (Post : Int32 → Mem → Prop) (M : Mem) (o : Nat) : Prop :=
 ∀ (P4 : Mem → Int32 → Int32 → Prop) ,
  (∀ (M : Mem) (v1 : Int32) (v2 : Int32), wp_X0_paidDebts_b4 Post o P4 M v1 v2 → P4 M v1 v2) →
 P4 M 0 0
theorem k_X0_paidDebts_b4 {E : Ek} {x : MC} (X : Cx E x cX0_paidDebts 3 RX0 1) {Post : Int32 → Mem → Prop} (hQ : QI E x Post (some .int)) {o : Nat} (ho : Aff o) {M : Mem} {v1 : Int32} {v2 : Int32} (h : wp_X0_paidDebts_b4 Post o (fun M v1 v2 => G E x M 4 [(0, .ref (ad E o)), (1, .int v1), (2, .int v2)] []) M v1 v2) : G E x M 4 [(0, .ref (ad E o)), (1, .int v1), (2, .int v2)] [] := by
  refine g_iload_n X dX0_paidDebts_4 rfl 2 rfl ?_
  refine g_aload_n X dX0_paidDebts_5 rfl 0 rfl ?_
  refine fg_X0_34 X ho dX0_paidDebts_6 ?_
  refine fg_X0_95 X dX0_paidDebts_9 ?_
  refine g_icmpge (tgt := 38) X dX0_paidDebts_12 (by decide) h (fun h => ?_) (fun h => ?_)
  · refine g_iload_n X dX0_paidDebts_38 rfl 1 rfl ?_
    exact g_iret X hQ dX0_paidDebts_39 h
  · refine g_iload_n X dX0_paidDebts_15 rfl 1 rfl ?_
    refine g_aload_n X dX0_paidDebts_16 rfl 0 rfl ?_
    refine fg_X0_24 X ho dX0_paidDebts_17 ?_
    refine g_iload_n X dX0_paidDebts_20 rfl 2 rfl ?_
    refine g_zald X (af_za5 ho) dX0_paidDebts_21 h (fun h => ?_)
    refine g_ifeq (tgt := 29) X dX0_paidDebts_22 (by decide) h (fun h => ?_) (fun h => ?_)
    · refine g_iconst (v := 0) X dX0_paidDebts_29 (by decide) ?_
      refine g_iadd X dX0_paidDebts_30 ?_
      refine g_nm h (fun x1_1 h => ?_)
      refine g_istore_n (lv' := [(0, .ref (ad E o)), (1, .int x1_1), (2, .int v2)]) X dX0_paidDebts_31 rfl (Nat.le_of_ble_eq_true rfl) rfl rfl ?_
      refine g_iinc (w := 1) X dX0_paidDebts_32 2 rfl (by decide) (Nat.le_of_ble_eq_true rfl) rfl (fun x2_2 => [(0, .ref (ad E o)), (1, .int x1_1), (2, .int x2_2)]) (fun _ => rfl) h (fun x2_2 h => ?_)
      refine g_goto (tgt := 4) X dX0_paidDebts_35 (by decide) ?_
      exact h
    · refine g_iconst (v := 1) X dX0_paidDebts_25 (by decide) ?_
      refine g_goto (tgt := 30) X dX0_paidDebts_26 (by decide) ?_
      refine g_iadd X dX0_paidDebts_30 ?_
      refine g_nm h (fun x1_3 h => ?_)
      refine g_istore_n (lv' := [(0, .ref (ad E o)), (1, .int x1_3), (2, .int v2)]) X dX0_paidDebts_31 rfl (Nat.le_of_ble_eq_true rfl) rfl rfl ?_
      refine g_iinc (w := 1) X dX0_paidDebts_32 2 rfl (by decide) (Nat.le_of_ble_eq_true rfl) rfl (fun x2_4 => [(0, .ref (ad E o)), (1, .int x1_3), (2, .int x2_4)]) (fun _ => rfl) h (fun x2_4 h => ?_)
      refine g_goto (tgt := 4) X dX0_paidDebts_35 (by decide) ?_
      exact h
theorem w_X0_paidDebts (E : Ek) (l : Launch) {o : Nat} (ho : Aff o) {M : Mem} {Post : Int32 → Mem → Prop} (h : wp_X0_paidDebts Post M o) : ctI E l yX0_paidDebts cX0_paidDebts 3 (some .int) 1 [.ref (ad E o)] M Post := by
  refine ct_of (by decide) (Nat.le_of_ble_eq_true rfl) (fun x X hQ => ?_)
  have h := h (fun M v1 v2 => G E x M 4 [(0, .ref (ad E o)), (1, .int v1), (2, .int v2)] []) (fun M v1 v2 h => k_X0_paidDebts_b4 X hQ ho h)
  change G E x M 0 [(0, .ref (ad E o))] []
  refine g_iconst (v := 0) X dX0_paidDebts_0 (by decide) ?_
  refine g_istore_n (lv' := [(0, .ref (ad E o)), (1, .int 0)]) X dX0_paidDebts_1 rfl (Nat.le_of_ble_eq_true rfl) rfl rfl ?_
  refine g_iconst (v := 0) X dX0_paidDebts_2 (by decide) ?_
  refine g_istore_n (lv' := [(0, .ref (ad E o)), (1, .int 0), (2, .int 0)]) X dX0_paidDebts_3 rfl (Nat.le_of_ble_eq_true rfl) rfl rfl ?_
  exact h
theorem cl_X11_252 {E : Ek} {x : MC} {cc : ByteArray} {nL hm pc : Nat} {M : Mem} {lv : List (Nat × Value)} {st : List Value} (X : Cx E x cc nL RX11 hm) {o : Nat} (ho : Aff o) {Post : Int32 → Mem → Prop} (hr : 1 < hm) (hW : (st.map fun v => v.category).sum ≤ 8) (hd : decode cc pc = .ok (.invokevirtual 252, 3)) (h : wp_X0_paidDebts Post M o) (kk : ∀ r M1, Post r M1 → G E x M1 (pc + 3) lv (.int r :: st)) : G E x M pc lv (.ref (ad E o) :: st) := k_I (fun hP hS hL => run_VN X (w_X0_paidDebts E (xl x) ho h) cw_X0_paidDebts m441 m442 m443 (af_oc ho) hr rfl hd hW hP hS hL) kk
theorem cw_X11_winters : CW yX11_winters cX11_winters 9 (some .int) 3 := ⟨m448, m10, Nat.le_of_ble_eq_true rfl, by decide +kernel⟩
def wp_X11_winters_b145 (Post : Int32 → Mem → Prop) (v1 : Int32) (v2 : Int32) (v3 : Int32) (P70 : Mem → Int32 → Int32 → Int32 → Prop) (M : Mem) (v4 : Int32) (v5 : Int32) (v6 : Int32) (v7 : Int32) : Prop :=
 wp_X0_payAll (fun r15 M16 =>
  ∀ x5_17 : Int32, x5_17 = v5 + r15 →
  ∀ x6_18 : Int32, x6_18 = v6 + 1 →
  P70 M16 v4 x5_17 x6_18) M 75 v7 0
def wp_X11_winters_b70 (Post : Int32 → Mem → Prop) (v1 : Int32) (v2 : Int32) (v3 : Int32) (P70 : Mem → Int32 → Int32 → Int32 → Prop) (M : Mem) (v4 : Int32) (v5 : Int32) (v6 : Int32) : Prop :=
 (v1 ≤ v6 →
  (¬ v3 = 0 →
   (¬ v3 = 1 →
    Post v4 M) ∧
   (v3 = 1 →
    wp_X0_paidDebts (fun r3 M4 =>
     Post r3 M4) M 75)) ∧
  (v3 = 0 →
   Post v5 M)) ∧
 (¬ v1 ≤ v6 →
  wp_X11_nextSeed (fun r5 M6 =>
   ¬ (rd M6 3 2) = 0 ∧
   ∀ x7_7 : Int32, x7_7 = (r5 / 65536) - (r5 / 65536) / (rd M6 3 2) * (rd M6 3 2) →
   wp_X11_nextSeed (fun r8 M9 =>
    ¬ (rd M9 3 1) = 0 ∧
    ∀ x8_10 : Int32, x8_10 = (r8 / 65536) - (r8 / 65536) / (rd M9 3 1) * (rd M9 3 1) →
    wp_X0_mayGo (fun r11 M12 =>
     (r11 = 0 →
      wp_X11_winters_b145 Post v1 v2 v3 P70 M12 r8 v5 v6 x7_7) ∧
     (¬ r11 = 0 →
      wp_X0_goThrough (fun M14 =>
       wp_X11_winters_b145 Post v1 v2 v3 P70 M14 r8 v5 v6 x7_7) M12 75 x7_7 x8_10)) M9 75 x7_7 x8_10) M6 r5) M v4)
def wp_X11_winters (Post : Int32 → Mem → Prop) (M : Mem) (v1 : Int32) (v2 : Int32) (v3 : Int32) : Prop :=
 ∀ (P70 : Mem → Int32 → Int32 → Int32 → Prop) ,
  (∀ (M : Mem) (v4 : Int32) (v5 : Int32) (v6 : Int32), wp_X11_winters_b70 Post v1 v2 v3 P70 M v4 v5 v6 → P70 M v4 v5 v6) →
 (v1 < 1 →
  Post (-102) M) ∧
 (¬ v1 < 1 →
  (60 < v1 →
   Post (-102) M) ∧
  (¬ 60 < v1 →
   (v2 < 0 →
    Post (-102) M) ∧
   (¬ v2 < 0 →
    (v3 < 0 →
     Post (-102) M) ∧
    (¬ v3 < 0 →
     (v3 ≤ 2 →
      ((rd M 3 2) = 0 →
       Post (-103) M) ∧
      (¬ (rd M 3 2) = 0 →
       (¬ (rd M 3 1) = 0 →
        wp_X0_takeOver (fun M2 =>
         P70 M2 v2 0 0) M 75 59) ∧
       ((rd M 3 1) = 0 →
        Post (-103) M))) ∧
     (¬ v3 ≤ 2 →
      Post (-102) M)))))
theorem k_X11_winters_b145 {E : Ek} {x : MC} (X : Cx E x cX11_winters 9 RX11 5) {Post : Int32 → Mem → Prop} (hQ : QI E x Post (some .int)) {v1 : Int32} {v2 : Int32} {v3 : Int32} {M : Mem} {v4 : Int32} {v5 : Int32} {v6 : Int32} {v7 : Int32} (h : wp_X11_winters_b145 Post v1 v2 v3 (fun M v4 v5 v6 => G E x M 70 [(0, .ref (ad E 0)), (1, .int v1), (3, .int v3), (4, .int v4), (5, .int v5), (6, .int v6)] []) M v4 v5 v6 v7) : G E x M 145 [(0, .ref (ad E 0)), (1, .int v1), (3, .int v3), (4, .int v4), (5, .int v5), (6, .int v6), (7, .int v7)] [] := by
  refine g_iload X dX11_winters_145 4 rfl ?_
  refine g_aload_n X dX11_winters_147 rfl 0 rfl ?_
  refine fg_X11_35 X dX11_winters_148 ?_
  refine g_iload X dX11_winters_151 6 rfl ?_
  refine g_iconst (v := 0) X dX11_winters_153 (by decide) ?_
  refine cl_X11_248 X aff_75 (by decide) (Nat.le_of_ble_eq_true rfl) dX11_winters_154 h (fun r15 M16 h => ?_)
  refine g_iadd X dX11_winters_157 ?_
  refine g_nm h (fun x5_17 h => ?_)
  refine g_istore (lv' := [(0, .ref (ad E 0)), (1, .int v1), (3, .int v3), (4, .int v4), (5, .int x5_17), (6, .int v6), (7, .int v7)]) X dX11_winters_158 (Nat.le_of_ble_eq_true rfl) rfl rfl ?_
  refine g_iinc (w := 1) X dX11_winters_160 5 rfl (by decide) (Nat.le_of_ble_eq_true rfl) rfl (fun x6_18 => [(0, .ref (ad E 0)), (1, .int v1), (3, .int v3), (4, .int v4), (5, .int x5_17), (6, .int x6_18), (7, .int v7)]) (fun _ => rfl) h (fun x6_18 h => ?_)
  refine g_goto (tgt := 70) X dX11_winters_163 (by decide) ?_
  exact g_sub [0, 1, 2, 3, 4, 5] rfl h
theorem k_X11_winters_b70 {E : Ek} {x : MC} (X : Cx E x cX11_winters 9 RX11 5) {Post : Int32 → Mem → Prop} (hQ : QI E x Post (some .int)) {v1 : Int32} {v2 : Int32} {v3 : Int32} {M : Mem} {v4 : Int32} {v5 : Int32} {v6 : Int32} (h : wp_X11_winters_b70 Post v1 v2 v3 (fun M v4 v5 v6 => G E x M 70 [(0, .ref (ad E 0)), (1, .int v1), (3, .int v3), (4, .int v4), (5, .int v5), (6, .int v6)] []) M v4 v5 v6) : G E x M 70 [(0, .ref (ad E 0)), (1, .int v1), (3, .int v3), (4, .int v4), (5, .int v5), (6, .int v6)] [] := by
  refine g_iload X dX11_winters_70 5 rfl ?_
  refine g_iload_n X dX11_winters_72 rfl 1 rfl ?_
  refine g_icmpge (tgt := 166) X dX11_winters_73 (by decide) h (fun h => ?_) (fun h => ?_)
  · refine g_iload_n X dX11_winters_166 rfl 2 rfl ?_
    refine g_ifne (tgt := 173) X dX11_winters_167 (by decide) h (fun h => ?_) (fun h => ?_)
    · refine g_iload_n X dX11_winters_173 rfl 2 rfl ?_
      refine g_iconst (v := 1) X dX11_winters_174 (by decide) ?_
      refine g_icmpne (tgt := 188) X dX11_winters_175 (by decide) h (fun h => ?_) (fun h => ?_)
      · refine g_iload X dX11_winters_188 3 rfl ?_
        exact g_iret X hQ dX11_winters_190 h
      · refine g_aload_n X dX11_winters_178 rfl 0 rfl ?_
        refine fg_X11_35 X dX11_winters_179 ?_
        refine cl_X11_252 X aff_75 (by decide) (Nat.le_of_ble_eq_true rfl) dX11_winters_182 h (fun r3 M4 h => ?_)
        refine g_goto (tgt := 190) X dX11_winters_185 (by decide) ?_
        exact g_iret X hQ dX11_winters_190 h
    · refine g_iload X dX11_winters_170 4 rfl ?_
      exact g_iret X hQ dX11_winters_172 h
  · refine g_iload X dX11_winters_76 3 rfl ?_
    refine cl_X11_244 X (by decide) (Nat.le_of_ble_eq_true rfl) dX11_winters_78 h (fun r5 M6 h => ?_)
    refine g_istore (lv' := [(0, .ref (ad E 0)), (1, .int v1), (3, .int v3), (4, .int r5), (5, .int v5), (6, .int v6)]) X dX11_winters_81 (Nat.le_of_ble_eq_true rfl) rfl rfl ?_
    refine g_iload X dX11_winters_83 3 rfl ?_
    refine g_ldc X dX11_winters_85 m446 ?_
    refine g_idiv X dX11_winters_87 ⟨by decide, h⟩ (fun h => ?_)
    refine g_aload_n X dX11_winters_88 rfl 0 rfl ?_
    refine fg_X11_19 X dX11_winters_89 ?_
    refine fg_X11_90 X dX11_winters_92 ?_
    refine g_irem X dX11_winters_95 h (fun h => ?_)
    refine g_nm h (fun x7_7 h => ?_)
    refine g_istore (lv' := [(0, .ref (ad E 0)), (1, .int v1), (3, .int v3), (4, .int r5), (5, .int v5), (6, .int v6), (7, .int x7_7)]) X dX11_winters_96 (Nat.le_of_ble_eq_true rfl) rfl rfl ?_
    refine g_iload X dX11_winters_98 3 rfl ?_
    refine cl_X11_244 X (by decide) (Nat.le_of_ble_eq_true rfl) dX11_winters_100 h (fun r8 M9 h => ?_)
    refine g_istore (lv' := [(0, .ref (ad E 0)), (1, .int v1), (3, .int v3), (4, .int r8), (5, .int v5), (6, .int v6), (7, .int x7_7)]) X dX11_winters_103 (Nat.le_of_ble_eq_true rfl) rfl rfl ?_
    refine g_iload X dX11_winters_105 3 rfl ?_
    refine g_ldc X dX11_winters_107 m446 ?_
    refine g_idiv X dX11_winters_109 ⟨by decide, h⟩ (fun h => ?_)
    refine g_aload_n X dX11_winters_110 rfl 0 rfl ?_
    refine fg_X11_19 X dX11_winters_111 ?_
    refine fg_X11_241 X dX11_winters_114 ?_
    refine g_irem X dX11_winters_117 h (fun h => ?_)
    refine g_nm h (fun x8_10 h => ?_)
    refine g_istore (lv' := [(0, .ref (ad E 0)), (1, .int v1), (3, .int v3), (4, .int r8), (5, .int v5), (6, .int v6), (7, .int x7_7), (8, .int x8_10)]) X dX11_winters_118 (Nat.le_of_ble_eq_true rfl) rfl rfl ?_
    refine g_aload_n X dX11_winters_120 rfl 0 rfl ?_
    refine fg_X11_35 X dX11_winters_121 ?_
    refine g_iload X dX11_winters_124 6 rfl ?_
    refine g_iload X dX11_winters_126 7 rfl ?_
    refine cl_X11_170 X aff_75 (by decide) (Nat.le_of_ble_eq_true rfl) dX11_winters_128 h (fun r11 M12 h => ?_)
    refine g_ifeq (tgt := 145) X dX11_winters_131 (by decide) h (fun h => ?_) (fun h => ?_)
    · exact g_sub [0, 1, 2, 3, 4, 5, 6] rfl (k_X11_winters_b145 X hQ  h)
    · refine g_aload_n X dX11_winters_134 rfl 0 rfl ?_
      refine fg_X11_35 X dX11_winters_135 ?_
      refine g_iload X dX11_winters_138 6 rfl ?_
      refine g_iload X dX11_winters_140 7 rfl ?_
      refine cl_X11_176 X aff_75 (by decide) (Nat.le_of_ble_eq_true rfl) dX11_winters_142 h (fun M14 h => ?_)
      exact g_sub [0, 1, 2, 3, 4, 5, 6] rfl (k_X11_winters_b145 X hQ  h)
theorem w_X11_winters (E : Ek) (l : Launch) {v1 : Int32} {v2 : Int32} {v3 : Int32} {M : Mem} {Post : Int32 → Mem → Prop} (h : wp_X11_winters Post M v1 v2 v3) : ctI E l yX11_winters cX11_winters 9 (some .int) 5 [.ref (ad E 0), .int v1, .int v2, .int v3] M Post := by
  refine ct_of (by decide) (Nat.le_of_ble_eq_true rfl) (fun x X hQ => ?_)
  have h := h (fun M v4 v5 v6 => G E x M 70 [(0, .ref (ad E 0)), (1, .int v1), (3, .int v3), (4, .int v4), (5, .int v5), (6, .int v6)] []) (fun M v4 v5 v6 h => k_X11_winters_b70 X hQ  h)
  change G E x M 0 [(0, .ref (ad E 0)), (1, .int v1), (2, .int v2), (3, .int v3)] []
  refine g_iload_n X dX11_winters_0 rfl 1 rfl ?_
  refine g_iconst (v := 1) X dX11_winters_1 (by decide) ?_
  refine g_icmplt (tgt := 24) X dX11_winters_2 (by decide) h (fun h => ?_) (fun h => ?_)
  · refine g_bipush (v := (-102)) X dX11_winters_24 (by decide) ?_
    exact g_iret X hQ dX11_winters_26 h
  · refine g_iload_n X dX11_winters_5 rfl 1 rfl ?_
    refine g_bipush (v := 60) X dX11_winters_6 (by decide) ?_
    refine g_icmpgt (tgt := 24) X dX11_winters_8 (by decide) h (fun h => ?_) (fun h => ?_)
    · refine g_bipush (v := (-102)) X dX11_winters_24 (by decide) ?_
      exact g_iret X hQ dX11_winters_26 h
    · refine g_iload_n X dX11_winters_11 rfl 2 rfl ?_
      refine g_iflt (tgt := 24) X dX11_winters_12 (by decide) h (fun h => ?_) (fun h => ?_)
      · refine g_bipush (v := (-102)) X dX11_winters_24 (by decide) ?_
        exact g_iret X hQ dX11_winters_26 h
      · refine g_iload_n X dX11_winters_15 rfl 3 rfl ?_
        refine g_iflt (tgt := 24) X dX11_winters_16 (by decide) h (fun h => ?_) (fun h => ?_)
        · refine g_bipush (v := (-102)) X dX11_winters_24 (by decide) ?_
          exact g_iret X hQ dX11_winters_26 h
        · refine g_iload_n X dX11_winters_19 rfl 3 rfl ?_
          refine g_iconst (v := 2) X dX11_winters_20 (by decide) ?_
          refine g_icmple (tgt := 27) X dX11_winters_21 (by decide) h (fun h => ?_) (fun h => ?_)
          · refine g_aload_n X dX11_winters_27 rfl 0 rfl ?_
            refine fg_X11_19 X dX11_winters_28 ?_
            refine fg_X11_90 X dX11_winters_31 ?_
            refine g_ifeq (tgt := 47) X dX11_winters_34 (by decide) h (fun h => ?_) (fun h => ?_)
            · refine g_bipush (v := (-103)) X dX11_winters_47 (by decide) ?_
              exact g_iret X hQ dX11_winters_49 h
            · refine g_aload_n X dX11_winters_37 rfl 0 rfl ?_
              refine fg_X11_19 X dX11_winters_38 ?_
              refine fg_X11_241 X dX11_winters_41 ?_
              refine g_ifne (tgt := 50) X dX11_winters_44 (by decide) h (fun h => ?_) (fun h => ?_)
              · refine g_aload_n X dX11_winters_50 rfl 0 rfl ?_
                refine fg_X11_35 X dX11_winters_51 ?_
                refine g_aload_n X dX11_winters_54 rfl 0 rfl ?_
                refine fg_X11_28 X dX11_winters_55 ?_
                refine cl_X11_219 X aff_75 aff_59 (by decide) (Nat.le_of_ble_eq_true rfl) dX11_winters_58 h (fun M2 h => ?_)
                refine g_iload_n X dX11_winters_61 rfl 2 rfl ?_
                refine g_istore (lv' := [(0, .ref (ad E 0)), (1, .int v1), (2, .int v2), (3, .int v3), (4, .int v2)]) X dX11_winters_62 (Nat.le_of_ble_eq_true rfl) rfl rfl ?_
                refine g_iconst (v := 0) X dX11_winters_64 (by decide) ?_
                refine g_istore (lv' := [(0, .ref (ad E 0)), (1, .int v1), (2, .int v2), (3, .int v3), (4, .int v2), (5, .int 0)]) X dX11_winters_65 (Nat.le_of_ble_eq_true rfl) rfl rfl ?_
                refine g_iconst (v := 0) X dX11_winters_67 (by decide) ?_
                refine g_istore (lv' := [(0, .ref (ad E 0)), (1, .int v1), (2, .int v2), (3, .int v3), (4, .int v2), (5, .int 0), (6, .int 0)]) X dX11_winters_68 (Nat.le_of_ble_eq_true rfl) rfl rfl ?_
                exact g_sub [0, 1, 3, 4, 5, 6] rfl h
              · refine g_bipush (v := (-103)) X dX11_winters_47 (by decide) ?_
                exact g_iret X hQ dX11_winters_49 h
          · refine g_bipush (v := (-102)) X dX11_winters_24 (by decide) ?_
            exact g_iret X hQ dX11_winters_26 h
theorem cw_X11_image : CW yX11_image cX11_image 1 (some .int) 0 := ⟨m451, m10, Nat.le_of_ble_eq_true rfl, by decide +kernel⟩
def wp_X11_image (Post : Int32 → Mem → Prop) (M : Mem) : Prop :=
 (¬ (rd M 3 2) = 0 →
  wp_X0_takeOver (fun M2 =>
   ∀ M3 : Mem, M3 = wr M2 0 8 1 →
   Post (rd M3 59 9) M3) M 67 59) ∧
 ((rd M 3 2) = 0 →
  Post (-103) M)
theorem w_X11_image (E : Ek) (l : Launch) {M : Mem} {Post : Int32 → Mem → Prop} (h : wp_X11_image Post M ) : ctI E l yX11_image cX11_image 1 (some .int) 2 [.ref (ad E 0)] M Post := by
  refine ct_of (by decide) (Nat.le_of_ble_eq_true rfl) (fun x X hQ => ?_)
  change G E x M 0 [(0, .ref (ad E 0))] []
  refine g_aload_n X dX11_image_0 rfl 0 rfl ?_
  refine fg_X11_19 X dX11_image_1 ?_
  refine fg_X11_90 X dX11_image_4 ?_
  refine g_ifne (tgt := 13) X dX11_image_7 (by decide) h (fun h => ?_) (fun h => ?_)
  · refine g_aload_n X dX11_image_13 rfl 0 rfl ?_
    refine fg_X11_32 X dX11_image_14 ?_
    refine g_aload_n X dX11_image_17 rfl 0 rfl ?_
    refine fg_X11_28 X dX11_image_18 ?_
    refine cl_X11_219 X aff_67 aff_59 (by decide) (Nat.le_of_ble_eq_true rfl) dX11_image_21 h (fun M2 h => ?_)
    refine g_aload_n X dX11_image_24 rfl 0 rfl ?_
    refine g_iconst (v := 1) X dX11_image_25 (by decide) ?_
    refine fp_X11_59 X (Or.inr rfl) dX11_image_26 h (fun M3 h => ?_)
    refine g_aload_n X dX11_image_29 rfl 0 rfl ?_
    refine fg_X11_28 X dX11_image_30 ?_
    refine fg_X11_173 X aff_59 dX11_image_33 ?_
    exact g_iret X hQ dX11_image_36 h
  · refine g_bipush (v := (-103)) X dX11_image_10 (by decide) ?_
    exact g_iret X hQ dX11_image_12 h
theorem cw_X11_restore : CW yX11_restore cX11_restore 1 (some .int) 0 := ⟨m452, m10, Nat.le_of_ble_eq_true rfl, by decide +kernel⟩
def wp_X11_restore (Post : Int32 → Mem → Prop) (M : Mem) : Prop :=
 (¬ (rd M 0 8) = 0 →
  wp_X0_takeOver (fun M2 =>
   Post (rd M2 59 9) M2) M 59 67) ∧
 ((rd M 0 8) = 0 →
  Post (-103) M)
theorem w_X11_restore (E : Ek) (l : Launch) {M : Mem} {Post : Int32 → Mem → Prop} (h : wp_X11_restore Post M ) : ctI E l yX11_restore cX11_restore 1 (some .int) 2 [.ref (ad E 0)] M Post := by
  refine ct_of (by decide) (Nat.le_of_ble_eq_true rfl) (fun x X hQ => ?_)
  change G E x M 0 [(0, .ref (ad E 0))] []
  refine g_aload_n X dX11_restore_0 rfl 0 rfl ?_
  refine fg_X11_59 X dX11_restore_1 ?_
  refine g_ifne (tgt := 10) X dX11_restore_4 (by decide) h (fun h => ?_) (fun h => ?_)
  · refine g_aload_n X dX11_restore_10 rfl 0 rfl ?_
    refine fg_X11_28 X dX11_restore_11 ?_
    refine g_aload_n X dX11_restore_14 rfl 0 rfl ?_
    refine fg_X11_32 X dX11_restore_15 ?_
    refine cl_X11_219 X aff_59 aff_67 (by decide) (Nat.le_of_ble_eq_true rfl) dX11_restore_18 h (fun M2 h => ?_)
    refine g_aload_n X dX11_restore_21 rfl 0 rfl ?_
    refine fg_X11_28 X dX11_restore_22 ?_
    refine fg_X11_173 X aff_59 dX11_restore_25 ?_
    exact g_iret X hQ dX11_restore_28 h
  · refine g_bipush (v := (-103)) X dX11_restore_7 (by decide) ?_
    exact g_iret X hQ dX11_restore_9 h
theorem cw_X0_sumsNotPaid : CW yX0_sumsNotPaid cX0_sumsNotPaid 3 (some .int) 0 := ⟨m453, m144, Nat.le_of_ble_eq_true rfl, by decide +kernel⟩
def wp_X0_sumsNotPaid_b4 (Post : Int32 → Mem → Prop) (o : Nat) (P4 : Mem → Int32 → Int32 → Prop) (M : Mem) (v1 : Int32) (v2 : Int32) : Prop :=
 ((rd M 3 3) ≤ v2 →
  Post v1 M) ∧
 (¬ (rd M 3 3) ≤ v2 →
  vp_in v2 4 ∧
  ((rd M (o + 5) v2.toNatClampNeg) = 0 →
   vp_in v2 4 ∧
   ∀ x1_1 : Int32, x1_1 = v1 + (rd M (o + 4) v2.toNatClampNeg) →
   ∀ x2_2 : Int32, x2_2 = v2 + 1 →
   P4 M x1_1 x2_2) ∧
  (¬ (rd M (o + 5) v2.toNatClampNeg) = 0 →
   ∀ x1_3 : Int32, x1_3 = v1 + 0 →
   ∀ x2_4 : Int32, x2_4 = v2 + 1 →
   P4 M x1_3 x2_4))
def wp_X0_sumsNotPaid (Post : Int32 → Mem → Prop) (M : Mem) (o : Nat) : Prop :=
 ∀ (P4 : Mem → Int32 → Int32 → Prop) ,
  (∀ (M : Mem) (v1 : Int32) (v2 : Int32), wp_X0_sumsNotPaid_b4 Post o P4 M v1 v2 → P4 M v1 v2) →
 P4 M 0 0
theorem k_X0_sumsNotPaid_b4 {E : Ek} {x : MC} (X : Cx E x cX0_sumsNotPaid 3 RX0 1) {Post : Int32 → Mem → Prop} (hQ : QI E x Post (some .int)) {o : Nat} (ho : Aff o) {M : Mem} {v1 : Int32} {v2 : Int32} (h : wp_X0_sumsNotPaid_b4 Post o (fun M v1 v2 => G E x M 4 [(0, .ref (ad E o)), (1, .int v1), (2, .int v2)] []) M v1 v2) : G E x M 4 [(0, .ref (ad E o)), (1, .int v1), (2, .int v2)] [] := by
  refine g_iload_n X dX0_sumsNotPaid_4 rfl 2 rfl ?_
  refine g_aload_n X dX0_sumsNotPaid_5 rfl 0 rfl ?_
  refine fg_X0_34 X ho dX0_sumsNotPaid_6 ?_
  refine fg_X0_95 X dX0_sumsNotPaid_9 ?_
  refine g_icmpge (tgt := 43) X dX0_sumsNotPaid_12 (by decide) h (fun h => ?_) (fun h => ?_)
  · refine g_iload_n X dX0_sumsNotPaid_43 rfl 1 rfl ?_
    exact g_iret X hQ dX0_sumsNotPaid_44 h
  · refine g_iload_n X dX0_sumsNotPaid_15 rfl 1 rfl ?_
    refine g_aload_n X dX0_sumsNotPaid_16 rfl 0 rfl ?_
    refine fg_X0_24 X ho dX0_sumsNotPaid_17 ?_
    refine g_iload_n X dX0_sumsNotPaid_20 rfl 2 rfl ?_
    refine g_zald X (af_za5 ho) dX0_sumsNotPaid_21 h (fun h => ?_)
    refine g_ifeq (tgt := 29) X dX0_sumsNotPaid_22 (by decide) h (fun h => ?_) (fun h => ?_)
    · refine g_aload_n X dX0_sumsNotPaid_29 rfl 0 rfl ?_
      refine fg_X0_21 X ho dX0_sumsNotPaid_30 ?_
      refine g_iload_n X dX0_sumsNotPaid_33 rfl 2 rfl ?_
      refine g_iald X (af_ia4 ho) dX0_sumsNotPaid_34 h (fun h => ?_)
      refine g_iadd X dX0_sumsNotPaid_35 ?_
      refine g_nm h (fun x1_1 h => ?_)
      refine g_istore_n (lv' := [(0, .ref (ad E o)), (1, .int x1_1), (2, .int v2)]) X dX0_sumsNotPaid_36 rfl (Nat.le_of_ble_eq_true rfl) rfl rfl ?_
      refine g_iinc (w := 1) X dX0_sumsNotPaid_37 2 rfl (by decide) (Nat.le_of_ble_eq_true rfl) rfl (fun x2_2 => [(0, .ref (ad E o)), (1, .int x1_1), (2, .int x2_2)]) (fun _ => rfl) h (fun x2_2 h => ?_)
      refine g_goto (tgt := 4) X dX0_sumsNotPaid_40 (by decide) ?_
      exact h
    · refine g_iconst (v := 0) X dX0_sumsNotPaid_25 (by decide) ?_
      refine g_goto (tgt := 35) X dX0_sumsNotPaid_26 (by decide) ?_
      refine g_iadd X dX0_sumsNotPaid_35 ?_
      refine g_nm h (fun x1_3 h => ?_)
      refine g_istore_n (lv' := [(0, .ref (ad E o)), (1, .int x1_3), (2, .int v2)]) X dX0_sumsNotPaid_36 rfl (Nat.le_of_ble_eq_true rfl) rfl rfl ?_
      refine g_iinc (w := 1) X dX0_sumsNotPaid_37 2 rfl (by decide) (Nat.le_of_ble_eq_true rfl) rfl (fun x2_4 => [(0, .ref (ad E o)), (1, .int x1_3), (2, .int x2_4)]) (fun _ => rfl) h (fun x2_4 h => ?_)
      refine g_goto (tgt := 4) X dX0_sumsNotPaid_40 (by decide) ?_
      exact h
theorem w_X0_sumsNotPaid (E : Ek) (l : Launch) {o : Nat} (ho : Aff o) {M : Mem} {Post : Int32 → Mem → Prop} (h : wp_X0_sumsNotPaid Post M o) : ctI E l yX0_sumsNotPaid cX0_sumsNotPaid 3 (some .int) 1 [.ref (ad E o)] M Post := by
  refine ct_of (by decide) (Nat.le_of_ble_eq_true rfl) (fun x X hQ => ?_)
  have h := h (fun M v1 v2 => G E x M 4 [(0, .ref (ad E o)), (1, .int v1), (2, .int v2)] []) (fun M v1 v2 h => k_X0_sumsNotPaid_b4 X hQ ho h)
  change G E x M 0 [(0, .ref (ad E o))] []
  refine g_iconst (v := 0) X dX0_sumsNotPaid_0 (by decide) ?_
  refine g_istore_n (lv' := [(0, .ref (ad E o)), (1, .int 0)]) X dX0_sumsNotPaid_1 rfl (Nat.le_of_ble_eq_true rfl) rfl rfl ?_
  refine g_iconst (v := 0) X dX0_sumsNotPaid_2 (by decide) ?_
  refine g_istore_n (lv' := [(0, .ref (ad E o)), (1, .int 0), (2, .int 0)]) X dX0_sumsNotPaid_3 rfl (Nat.le_of_ble_eq_true rfl) rfl rfl ?_
  exact h
theorem cl_X11_261 {E : Ek} {x : MC} {cc : ByteArray} {nL hm pc : Nat} {M : Mem} {lv : List (Nat × Value)} {st : List Value} (X : Cx E x cc nL RX11 hm) {o : Nat} (ho : Aff o) {Post : Int32 → Mem → Prop} (hr : 1 < hm) (hW : (st.map fun v => v.category).sum ≤ 8) (hd : decode cc pc = .ok (.invokevirtual 261, 3)) (h : wp_X0_sumsNotPaid Post M o) (kk : ∀ r M1, Post r M1 → G E x M1 (pc + 3) lv (.int r :: st)) : G E x M pc lv (.ref (ad E o) :: st) := k_I (fun hP hS hL => run_VN X (w_X0_sumsNotPaid E (xl x) ho h) cw_X0_sumsNotPaid m455 m456 m457 (af_oc ho) hr rfl hd hW hP hS hL) kk
