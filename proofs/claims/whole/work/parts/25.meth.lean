theorem cw_X9_lessen : CW yX9_lessen cX9_lessen 8 none 3 := ⟨m378, m364, Nat.le_of_ble_eq_true rfl, by decide +kernel⟩
def wp_X9_lessen_b143 (Post : Mem → Prop) (v1 : Int32) (v2 : Int32) (R : (Mem → Prop) → Mem → Int32 → Int32 → Prop) (P143 : Mem → Int32 → Int32 → Int32 → Int32 → Prop) (M : Mem) (v3 : Int32) (v4 : Int32) (v6 : Int32) (v7 : Int32) : Prop :=
 (v6 < v7 →
  Post M) ∧
 (¬ v6 < v7 →
  vp_in v1 4 ∧
  ∀ M12 : Mem, M12 = wr M 25 v1.toNatClampNeg v7 →
  vp_in v3 4 ∧
  vp_in v3 4 ∧
  ∀ M13 : Mem, M13 = wr M12 28 v3.toNatClampNeg ((rd M12 28 v3.toNatClampNeg) + v7) →
  vp_in v4 4 ∧
  vp_in v4 4 ∧
  ∀ M14 : Mem, M14 = wr M13 28 v4.toNatClampNeg ((rd M13 28 v4.toNatClampNeg) - v7) →
  R (fun M16 =>
   vp_in v3 4 ∧
   vp_in v3 4 ∧
   ∀ M17 : Mem, M17 = wr M16 28 v3.toNatClampNeg ((rd M16 28 v3.toNatClampNeg) - v7) →
   vp_in v4 4 ∧
   vp_in v4 4 ∧
   ∀ M18 : Mem, M18 = wr M17 28 v4.toNatClampNeg ((rd M17 28 v4.toNatClampNeg) + v7) →
   ∀ x7_19 : Int32, x7_19 = v7 + 1 →
   P143 M18 v3 v4 v6 x7_19) M14 (v1 + 1) (v2 + v7))
def wp_X9_lessen_b100 (Post : Mem → Prop) (v1 : Int32) (v2 : Int32) (R : (Mem → Prop) → Mem → Int32 → Int32 → Prop) (P143 : Mem → Int32 → Int32 → Int32 → Int32 → Prop) (M : Mem) (v3 : Int32) (v4 : Int32) (v5 : Int32) (v6 : Int32) : Prop :=
 vp_in v4 4 ∧
 (¬ (rd M 27 v4.toNatClampNeg) = v1 →
  P143 M v3 v4 v6 v5) ∧
 ((rd M 27 v4.toNatClampNeg) = v1 →
  vp_in v4 4 ∧
  ∀ x5_10 : Int32, x5_10 = (if v5 < (rd M 28 v4.toNatClampNeg) then (rd M 28 v4.toNatClampNeg) else v5) →
  vp_in v4 4 ∧
  ∀ x6_11 : Int32, x6_11 = (if (rd M 28 v4.toNatClampNeg) < v6 then (rd M 28 v4.toNatClampNeg) else v6) →
  P143 M v3 v4 x6_11 x5_10)
def wp_X9_lessen : Nat → (Mem → Prop) → Mem → Int32 → Int32 → Prop
  | 0, _, _, _, _ => False
  | fu + 1, Post, M, v1, v2 =>
  ∀ (P143 : Mem → Int32 → Int32 → Int32 → Int32 → Prop) ,
   (∀ (M : Mem) (v3 : Int32) (v4 : Int32) (v6 : Int32) (v7 : Int32), wp_X9_lessen_b143 Post v1 v2 (wp_X9_lessen fu) P143 M v3 v4 v6 v7 → P143 M v3 v4 v6 v7) →
  (v1 < 4 →
   vp_in v1 4 ∧
   (¬ (rd M 24 v1.toNatClampNeg) = (-1) →
    vp_in v1 4 ∧
    ∀ x3_1 : Int32, x3_1 = rd M 8 v1.toNatClampNeg →
    vp_in v1 4 ∧
    ∀ x4_2 : Int32, x4_2 = rd M 9 v1.toNatClampNeg →
    vp_in v1 4 ∧
    ∀ x6_3 : Int32, x6_3 = rd M 24 v1.toNatClampNeg →
    vp_in x3_1 4 ∧
    (¬ (rd M 27 x3_1.toNatClampNeg) = v1 →
     wp_X9_lessen_b100 Post v1 v2 (wp_X9_lessen fu) P143 M x3_1 x4_2 0 x6_3) ∧
    ((rd M 27 x3_1.toNatClampNeg) = v1 →
     vp_in x3_1 4 ∧
     ∀ x5_4 : Int32, x5_4 = (if 0 < (-(rd M 28 x3_1.toNatClampNeg)) then (-(rd M 28 x3_1.toNatClampNeg)) else 0) →
     vp_in x3_1 4 ∧
     ∀ x6_5 : Int32, x6_5 = (if (-(rd M 28 x3_1.toNatClampNeg)) < x6_3 then (-(rd M 28 x3_1.toNatClampNeg)) else x6_3) →
     wp_X9_lessen_b100 Post v1 v2 (wp_X9_lessen fu) P143 M x3_1 x4_2 x5_4 x6_5)) ∧
   ((rd M 24 v1.toNatClampNeg) = (-1) →
    (wp_X9_lessen fu) (fun M7 =>
     Post M7) M (v1 + 1) v2)) ∧
  (¬ v1 < 4 →
   wp_X9_keepIfMore (fun M9 =>
    Post M9) M v2)
theorem k_X9_lessen_b143 {E : Ek} {x : MC} {fu : Nat} (X : Cx E x cX9_lessen 8 RX9 (fu + 2)) {Post : Mem → Prop} (hQ : QV E x Post none) {v1 : Int32} {v2 : Int32} {R : (Mem → Prop) → Mem → Int32 → Int32 → Prop} (ihc : ∀ {Post : Mem → Prop} {M : Mem} {v1 : Int32} {v2 : Int32} , R Post M v1 v2 → ctV E (xl x) yX9_lessen cX9_lessen 8 none (fu + 1) [.ref (ad E 23), .int v1, .int v2] M Post) {M : Mem} {v3 : Int32} {v4 : Int32} {v6 : Int32} {v7 : Int32} (h : wp_X9_lessen_b143 Post v1 v2 R (fun M v3 v4 v6 v7 => G E x M 143 [(0, .ref (ad E 23)), (1, .int v1), (2, .int v2), (3, .int v3), (4, .int v4), (6, .int v6), (7, .int v7)] []) M v3 v4 v6 v7) : G E x M 143 [(0, .ref (ad E 23)), (1, .int v1), (2, .int v2), (3, .int v3), (4, .int v4), (6, .int v6), (7, .int v7)] [] := by
  refine g_iload X dX9_lessen_143 6 rfl ?_
  refine g_iload X dX9_lessen_145 5 rfl ?_
  refine g_icmpgt (tgt := 221) X dX9_lessen_147 (by decide) h (fun h => ?_) (fun h => ?_)
  · exact g_vret X hQ dX9_lessen_221 h
  · refine g_aload_n X dX9_lessen_150 rfl 0 rfl ?_
    refine fg_X9_15 X dX9_lessen_151 ?_
    refine g_iload_n X dX9_lessen_154 rfl 1 rfl ?_
    refine g_iload X dX9_lessen_155 6 rfl ?_
    refine g_iast X ia_25 dX9_lessen_157 h (fun M12 h => ?_)
    refine g_aload_n X dX9_lessen_158 rfl 0 rfl ?_
    refine fg_X9_24 X dX9_lessen_159 ?_
    refine g_iload_n X dX9_lessen_162 rfl 3 rfl ?_
    refine g_dup2 X dX9_lessen_163 rfl rfl ?_
    refine g_iald X ia_28 dX9_lessen_164 h (fun h => ?_)
    refine g_iload X dX9_lessen_165 6 rfl ?_
    refine g_iadd X dX9_lessen_167 ?_
    refine g_iast X ia_28 dX9_lessen_168 h (fun M13 h => ?_)
    refine g_aload_n X dX9_lessen_169 rfl 0 rfl ?_
    refine fg_X9_24 X dX9_lessen_170 ?_
    refine g_iload X dX9_lessen_173 4 rfl ?_
    refine g_dup2 X dX9_lessen_175 rfl rfl ?_
    refine g_iald X ia_28 dX9_lessen_176 h (fun h => ?_)
    refine g_iload X dX9_lessen_177 6 rfl ?_
    refine g_isub X dX9_lessen_179 ?_
    refine g_iast X ia_28 dX9_lessen_180 h (fun M14 h => ?_)
    refine g_aload_n X dX9_lessen_181 rfl 0 rfl ?_
    refine g_iload_n X dX9_lessen_182 rfl 1 rfl ?_
    refine g_iconst (v := 1) X dX9_lessen_183 (by decide) ?_
    refine g_iadd X dX9_lessen_184 ?_
    refine g_iload_n X dX9_lessen_185 rfl 2 rfl ?_
    refine g_iload X dX9_lessen_186 6 rfl ?_
    refine g_iadd X dX9_lessen_188 ?_
    refine k_V (fun hP hS hL => run_S (st := []) X (ihc h) cw_X9_lessen m373 m374 (by omega) rfl dX9_lessen_189 (Nat.le_of_ble_eq_true rfl) hP hS hL) (fun M16 h => ?_)
    refine g_aload_n X dX9_lessen_192 rfl 0 rfl ?_
    refine fg_X9_24 X dX9_lessen_193 ?_
    refine g_iload_n X dX9_lessen_196 rfl 3 rfl ?_
    refine g_dup2 X dX9_lessen_197 rfl rfl ?_
    refine g_iald X ia_28 dX9_lessen_198 h (fun h => ?_)
    refine g_iload X dX9_lessen_199 6 rfl ?_
    refine g_isub X dX9_lessen_201 ?_
    refine g_iast X ia_28 dX9_lessen_202 h (fun M17 h => ?_)
    refine g_aload_n X dX9_lessen_203 rfl 0 rfl ?_
    refine fg_X9_24 X dX9_lessen_204 ?_
    refine g_iload X dX9_lessen_207 4 rfl ?_
    refine g_dup2 X dX9_lessen_209 rfl rfl ?_
    refine g_iald X ia_28 dX9_lessen_210 h (fun h => ?_)
    refine g_iload X dX9_lessen_211 6 rfl ?_
    refine g_iadd X dX9_lessen_213 ?_
    refine g_iast X ia_28 dX9_lessen_214 h (fun M18 h => ?_)
    refine g_iinc (w := 1) X dX9_lessen_215 6 rfl (by decide) (Nat.le_of_ble_eq_true rfl) rfl (fun x7_19 => [(0, .ref (ad E 23)), (1, .int v1), (2, .int v2), (3, .int v3), (4, .int v4), (6, .int v6), (7, .int x7_19)]) (fun _ => rfl) h (fun x7_19 h => ?_)
    refine g_goto (tgt := 143) X dX9_lessen_218 (by decide) ?_
    exact h
theorem k_X9_lessen_b100 {E : Ek} {x : MC} {fu : Nat} (X : Cx E x cX9_lessen 8 RX9 (fu + 2)) {Post : Mem → Prop} (hQ : QV E x Post none) {v1 : Int32} {v2 : Int32} {R : (Mem → Prop) → Mem → Int32 → Int32 → Prop} (ihc : ∀ {Post : Mem → Prop} {M : Mem} {v1 : Int32} {v2 : Int32} , R Post M v1 v2 → ctV E (xl x) yX9_lessen cX9_lessen 8 none (fu + 1) [.ref (ad E 23), .int v1, .int v2] M Post) {M : Mem} {v3 : Int32} {v4 : Int32} {v5 : Int32} {v6 : Int32} (h : wp_X9_lessen_b100 Post v1 v2 R (fun M v3 v4 v6 v7 => G E x M 143 [(0, .ref (ad E 23)), (1, .int v1), (2, .int v2), (3, .int v3), (4, .int v4), (6, .int v6), (7, .int v7)] []) M v3 v4 v5 v6) : G E x M 100 [(0, .ref (ad E 23)), (1, .int v1), (2, .int v2), (3, .int v3), (4, .int v4), (5, .int v5), (6, .int v6)] [] := by
  refine g_aload_n X dX9_lessen_100 rfl 0 rfl ?_
  refine fg_X9_21 X dX9_lessen_101 ?_
  refine g_iload X dX9_lessen_104 4 rfl ?_
  refine g_iald X ia_27 dX9_lessen_106 h (fun h => ?_)
  refine g_iload_n X dX9_lessen_107 rfl 1 rfl ?_
  refine g_icmpne (tgt := 139) X dX9_lessen_108 (by decide) h (fun h => ?_) (fun h => ?_)
  · refine g_iload X dX9_lessen_139 5 rfl ?_
    refine g_istore (lv' := [(0, .ref (ad E 23)), (1, .int v1), (2, .int v2), (3, .int v3), (4, .int v4), (5, .int v5), (6, .int v6), (7, .int v5)]) X dX9_lessen_141 (Nat.le_of_ble_eq_true rfl) rfl rfl ?_
    exact g_sub [0, 1, 2, 3, 4, 6, 7] rfl h
  · refine g_iload X dX9_lessen_111 5 rfl ?_
    refine g_aload_n X dX9_lessen_113 rfl 0 rfl ?_
    refine fg_X9_24 X dX9_lessen_114 ?_
    refine g_iload X dX9_lessen_117 4 rfl ?_
    refine g_iald X ia_28 dX9_lessen_119 h (fun h => ?_)
    refine g_mmax X dX9_lessen_120 ma371 ma46 ma48 ma47 (Nat.le_of_ble_eq_true rfl) (Nat.le_of_ble_eq_true rfl) ?_
    refine g_nm h (fun x5_10 h => ?_)
    refine g_istore (lv' := [(0, .ref (ad E 23)), (1, .int v1), (2, .int v2), (3, .int v3), (4, .int v4), (5, .int x5_10), (6, .int v6)]) X dX9_lessen_123 (Nat.le_of_ble_eq_true rfl) rfl rfl ?_
    refine g_iload X dX9_lessen_125 6 rfl ?_
    refine g_aload_n X dX9_lessen_127 rfl 0 rfl ?_
    refine fg_X9_24 X dX9_lessen_128 ?_
    refine g_iload X dX9_lessen_131 4 rfl ?_
    refine g_iald X ia_28 dX9_lessen_133 h (fun h => ?_)
    refine g_mmin X dX9_lessen_134 ma372 ma50 ma52 ma51 (Nat.le_of_ble_eq_true rfl) (Nat.le_of_ble_eq_true rfl) ?_
    refine g_nm h (fun x6_11 h => ?_)
    refine g_istore (lv' := [(0, .ref (ad E 23)), (1, .int v1), (2, .int v2), (3, .int v3), (4, .int v4), (5, .int x5_10), (6, .int x6_11)]) X dX9_lessen_137 (Nat.le_of_ble_eq_true rfl) rfl rfl ?_
    refine g_iload X dX9_lessen_139 5 rfl ?_
    refine g_istore (lv' := [(0, .ref (ad E 23)), (1, .int v1), (2, .int v2), (3, .int v3), (4, .int v4), (5, .int x5_10), (6, .int x6_11), (7, .int x5_10)]) X dX9_lessen_141 (Nat.le_of_ble_eq_true rfl) rfl rfl ?_
    exact g_sub [0, 1, 2, 3, 4, 6, 7] rfl h
theorem w_X9_lessen (E : Ek) : ∀ (fu : Nat) (l : Launch) {v1 : Int32} {v2 : Int32} {M : Mem} {Post : Mem → Prop} (h : wp_X9_lessen fu Post M v1 v2), ctV E l yX9_lessen cX9_lessen 8 none (fu + 1) [.ref (ad E 23), .int v1, .int v2] M Post := by
  intro fu
  induction fu with
  | zero => intro l v1 v2 M Post h; exact absurd h (by simp [wp_X9_lessen])
  | succ fu ih =>
  intro l v1 v2 M Post h
  refine ct_of (by decide) (Nat.le_of_ble_eq_true rfl) (fun x X hQ => ?_)
  have X : Cx E x cX9_lessen 8 RX9 (fu + 2) := by rw [show fu + 2 = fu + 1 + 1 by omega]; exact X
  have ihc : ∀ {Post : Mem → Prop} {M : Mem} {v1 : Int32} {v2 : Int32} , wp_X9_lessen fu Post M v1 v2 → ctV E (xl x) yX9_lessen cX9_lessen 8 none (fu + 1) [.ref (ad E 23), .int v1, .int v2] M Post := fun h => ih (xl x) h
  have h := h (fun M v3 v4 v6 v7 => G E x M 143 [(0, .ref (ad E 23)), (1, .int v1), (2, .int v2), (3, .int v3), (4, .int v4), (6, .int v6), (7, .int v7)] []) (fun M v3 v4 v6 v7 h => k_X9_lessen_b143 X hQ  ihc h)
  change G E x M 0 [(0, .ref (ad E 23)), (1, .int v1), (2, .int v2)] []
  refine g_iload_n X dX9_lessen_0 rfl 1 rfl ?_
  refine g_iconst (v := 4) X dX9_lessen_1 (by decide) ?_
  refine g_icmplt (tgt := 11) X dX9_lessen_2 (by decide) h (fun h => ?_) (fun h => ?_)
  · refine g_aload_n X dX9_lessen_11 rfl 0 rfl ?_
    refine fg_X9_9 X dX9_lessen_12 ?_
    refine g_iload_n X dX9_lessen_15 rfl 1 rfl ?_
    refine g_iald X ia_24 dX9_lessen_16 h (fun h => ?_)
    refine g_iconst (v := (-1)) X dX9_lessen_17 (by decide) ?_
    refine g_icmpne (tgt := 30) X dX9_lessen_18 (by decide) h (fun h => ?_) (fun h => ?_)
    · refine g_aload_n X dX9_lessen_30 rfl 0 rfl ?_
      refine fg_X9_27 X dX9_lessen_31 ?_
      refine fg_X9_49 X dX9_lessen_34 ?_
      refine g_iload_n X dX9_lessen_37 rfl 1 rfl ?_
      refine g_iald X ia_8 dX9_lessen_38 h (fun h => ?_)
      refine g_nm h (fun x3_1 h => ?_)
      refine g_istore_n (lv' := [(0, .ref (ad E 23)), (1, .int v1), (2, .int v2), (3, .int x3_1)]) X dX9_lessen_39 rfl (Nat.le_of_ble_eq_true rfl) rfl rfl ?_
      refine g_aload_n X dX9_lessen_40 rfl 0 rfl ?_
      refine fg_X9_27 X dX9_lessen_41 ?_
      refine fg_X9_52 X dX9_lessen_44 ?_
      refine g_iload_n X dX9_lessen_47 rfl 1 rfl ?_
      refine g_iald X ia_9 dX9_lessen_48 h (fun h => ?_)
      refine g_nm h (fun x4_2 h => ?_)
      refine g_istore (lv' := [(0, .ref (ad E 23)), (1, .int v1), (2, .int v2), (3, .int x3_1), (4, .int x4_2)]) X dX9_lessen_49 (Nat.le_of_ble_eq_true rfl) rfl rfl ?_
      refine g_iconst (v := 0) X dX9_lessen_51 (by decide) ?_
      refine g_istore (lv' := [(0, .ref (ad E 23)), (1, .int v1), (2, .int v2), (3, .int x3_1), (4, .int x4_2), (5, .int 0)]) X dX9_lessen_52 (Nat.le_of_ble_eq_true rfl) rfl rfl ?_
      refine g_aload_n X dX9_lessen_54 rfl 0 rfl ?_
      refine fg_X9_9 X dX9_lessen_55 ?_
      refine g_iload_n X dX9_lessen_58 rfl 1 rfl ?_
      refine g_iald X ia_24 dX9_lessen_59 h (fun h => ?_)
      refine g_nm h (fun x6_3 h => ?_)
      refine g_istore (lv' := [(0, .ref (ad E 23)), (1, .int v1), (2, .int v2), (3, .int x3_1), (4, .int x4_2), (5, .int 0), (6, .int x6_3)]) X dX9_lessen_60 (Nat.le_of_ble_eq_true rfl) rfl rfl ?_
      refine g_aload_n X dX9_lessen_62 rfl 0 rfl ?_
      refine fg_X9_21 X dX9_lessen_63 ?_
      refine g_iload_n X dX9_lessen_66 rfl 3 rfl ?_
      refine g_iald X ia_27 dX9_lessen_67 h (fun h => ?_)
      refine g_iload_n X dX9_lessen_68 rfl 1 rfl ?_
      refine g_icmpne (tgt := 100) X dX9_lessen_69 (by decide) h (fun h => ?_) (fun h => ?_)
      · exact (k_X9_lessen_b100 X hQ  ihc h)
      · refine g_iload X dX9_lessen_72 5 rfl ?_
        refine g_aload_n X dX9_lessen_74 rfl 0 rfl ?_
        refine fg_X9_24 X dX9_lessen_75 ?_
        refine g_iload_n X dX9_lessen_78 rfl 3 rfl ?_
        refine g_iald X ia_28 dX9_lessen_79 h (fun h => ?_)
        refine g_ineg X dX9_lessen_80 ?_
        refine g_mmax X dX9_lessen_81 ma371 ma46 ma48 ma47 (Nat.le_of_ble_eq_true rfl) (Nat.le_of_ble_eq_true rfl) ?_
        refine g_nm h (fun x5_4 h => ?_)
        refine g_istore (lv' := [(0, .ref (ad E 23)), (1, .int v1), (2, .int v2), (3, .int x3_1), (4, .int x4_2), (5, .int x5_4), (6, .int x6_3)]) X dX9_lessen_84 (Nat.le_of_ble_eq_true rfl) rfl rfl ?_
        refine g_iload X dX9_lessen_86 6 rfl ?_
        refine g_aload_n X dX9_lessen_88 rfl 0 rfl ?_
        refine fg_X9_24 X dX9_lessen_89 ?_
        refine g_iload_n X dX9_lessen_92 rfl 3 rfl ?_
        refine g_iald X ia_28 dX9_lessen_93 h (fun h => ?_)
        refine g_ineg X dX9_lessen_94 ?_
        refine g_mmin X dX9_lessen_95 ma372 ma50 ma52 ma51 (Nat.le_of_ble_eq_true rfl) (Nat.le_of_ble_eq_true rfl) ?_
        refine g_nm h (fun x6_5 h => ?_)
        refine g_istore (lv' := [(0, .ref (ad E 23)), (1, .int v1), (2, .int v2), (3, .int x3_1), (4, .int x4_2), (5, .int x5_4), (6, .int x6_5)]) X dX9_lessen_98 (Nat.le_of_ble_eq_true rfl) rfl rfl ?_
        exact (k_X9_lessen_b100 X hQ  ihc h)
    · refine g_aload_n X dX9_lessen_21 rfl 0 rfl ?_
      refine g_iload_n X dX9_lessen_22 rfl 1 rfl ?_
      refine g_iconst (v := 1) X dX9_lessen_23 (by decide) ?_
      refine g_iadd X dX9_lessen_24 ?_
      refine g_iload_n X dX9_lessen_25 rfl 2 rfl ?_
      refine k_V (fun hP hS hL => run_S (st := []) X (ihc h) cw_X9_lessen m373 m374 (by omega) rfl dX9_lessen_26 (Nat.le_of_ble_eq_true rfl) hP hS hL) (fun M7 h => ?_)
      exact g_vret X hQ dX9_lessen_29 h
  · refine g_aload_n X dX9_lessen_5 rfl 0 rfl ?_
    refine g_iload_n X dX9_lessen_6 rfl 2 rfl ?_
    refine cl_X9_62 X (by omega) (Nat.le_of_ble_eq_true rfl) dX9_lessen_7 h (fun M9 h => ?_)
    exact g_vret X hQ dX9_lessen_10 h
theorem cl_X9_58 {E : Ek} {x : MC} {cc : ByteArray} {nL hm pc : Nat} {M : Mem} {lv : List (Nat × Value)} {st : List Value} (X : Cx E x cc nL RX9 hm) {v1 : Int32} {v2 : Int32} {fu : Nat} {Post : Mem → Prop} (hr : fu + 1 < hm) (hW : (st.map fun v => v.category).sum ≤ 8) (hd : decode cc pc = .ok (.invokestatic 58, 3)) (h : wp_X9_lessen fu Post M v1 v2) (kk : ∀ M1, Post M1 → G E x M1 (pc + 3) lv st) : G E x M pc lv (.int v2 :: .int v1 :: .ref (ad E 23) :: st) := k_V (fun hP hS hL => run_S X (w_X9_lessen E fu (xl x)  h) cw_X9_lessen m373 m374 hr rfl hd hW hP hS hL) kk
theorem cw_X9_search : CW yX9_search cX9_search 4 none 2 := ⟨m383, m364, Nat.le_of_ble_eq_true rfl, by decide +kernel⟩
def wp_X9_search_b29 (Post : Mem → Prop) (o1 : Nat) (v2 : Int32) (P2 : Mem → Int32 → Prop) (P29 : Mem → Int32 → Prop) (M : Mem) (v3 : Int32) : Prop :=
 (4 ≤ v3 →
  ∀ M4 : Mem, M4 = wr M 23 6 (-1) →
  wp_X9_lessen 6 (fun M6 =>
   Post M6) M4 0 0) ∧
 (¬ 4 ≤ v3 →
  vp_in v3 4 ∧
  ∀ M7 : Mem, M7 = wr M 25 v3.toNatClampNeg (-1) →
  vp_in v3 4 ∧
  ∀ M8 : Mem, M8 = wr M7 24 v3.toNatClampNeg (-1) →
  ((rd M8 3 3) ≤ v3 →
   ∀ x3_9 : Int32, x3_9 = v3 + 1 →
   P29 M8 x3_9) ∧
  (¬ (rd M8 3 3) ≤ v3 →
   vp_in v3 4 ∧
   (¬ (rd M8 10 v3.toNatClampNeg) = v2 →
    ∀ x3_10 : Int32, x3_10 = v3 + 1 →
    P29 M8 x3_10) ∧
   ((rd M8 10 v3.toNatClampNeg) = v2 →
    vp_in v3 4 ∧
    (¬ (rd M8 (o1 + 5) v3.toNatClampNeg) = 0 →
     ∀ x3_11 : Int32, x3_11 = v3 + 1 →
     P29 M8 x3_11) ∧
    ((rd M8 (o1 + 5) v3.toNatClampNeg) = 0 →
     vp_in v3 4 ∧
     vp_in v3 4 ∧
     ∀ M12 : Mem, M12 = wr M8 24 v3.toNatClampNeg (rd M8 (o1 + 4) v3.toNatClampNeg) →
     vp_in v3 4 ∧
     vp_in (rd M12 8 v3.toNatClampNeg) 4 ∧
     ∀ M13 : Mem, M13 = wr M12 27 (rd M12 8 v3.toNatClampNeg).toNatClampNeg v3 →
     vp_in v3 4 ∧
     vp_in (rd M13 9 v3.toNatClampNeg) 4 ∧
     ∀ M14 : Mem, M14 = wr M13 27 (rd M13 9 v3.toNatClampNeg).toNatClampNeg v3 →
     ∀ x3_15 : Int32, x3_15 = v3 + 1 →
     P29 M14 x3_15))))
def wp_X9_search_b2 (Post : Mem → Prop) (o1 : Nat) (v2 : Int32) (P2 : Mem → Int32 → Prop) (P29 : Mem → Int32 → Prop) (M : Mem) (v3 : Int32) : Prop :=
 (4 ≤ v3 →
  P29 M 0) ∧
 (¬ 4 ≤ v3 →
  vp_in v3 4 ∧
  ∀ M1 : Mem, M1 = wr M 27 v3.toNatClampNeg (-1) →
  vp_in v3 4 ∧
  ∀ M2 : Mem, M2 = wr M1 28 v3.toNatClampNeg 0 →
  ∀ x3_3 : Int32, x3_3 = v3 + 1 →
  P2 M2 x3_3)
def wp_X9_search (Post : Mem → Prop) (M : Mem) (o1 : Nat) (v2 : Int32) : Prop :=
 ∀ (P2 : Mem → Int32 → Prop) (P29 : Mem → Int32 → Prop) ,
  (∀ (M : Mem) (v3 : Int32), wp_X9_search_b2 Post o1 v2 P2 P29 M v3 → P2 M v3) →
  (∀ (M : Mem) (v3 : Int32), wp_X9_search_b29 Post o1 v2 P2 P29 M v3 → P29 M v3) →
 P2 M 0
theorem k_X9_search_b29 {E : Ek} {x : MC} (X : Cx E x cX9_search 4 RX9 9) {Post : Mem → Prop} (hQ : QV E x Post none) {o1 : Nat} {v2 : Int32} (ho1 : Aff o1) {M : Mem} {v3 : Int32} (h : wp_X9_search_b29 Post o1 v2 (fun M v3 => G E x M 2 [(0, .ref (ad E 23)), (1, .ref (ad E o1)), (2, .int v2), (3, .int v3)] []) (fun M v3 => G E x M 29 [(0, .ref (ad E 23)), (1, .ref (ad E o1)), (2, .int v2), (3, .int v3)] []) M v3) : G E x M 29 [(0, .ref (ad E 23)), (1, .ref (ad E o1)), (2, .int v2), (3, .int v3)] [] := by
  refine g_iload_n X dX9_search_29 rfl 3 rfl ?_
  refine g_iconst (v := 4) X dX9_search_30 (by decide) ?_
  refine g_icmpge (tgt := 129) X dX9_search_31 (by decide) h (fun h => ?_) (fun h => ?_)
  · refine g_aload_n X dX9_search_129 rfl 0 rfl ?_
    refine g_iconst (v := (-1)) X dX9_search_130 (by decide) ?_
    refine fp_X9_55 X dX9_search_131 h (fun M4 h => ?_)
    refine g_aload_n X dX9_search_134 rfl 0 rfl ?_
    refine g_iconst (v := 0) X dX9_search_135 (by decide) ?_
    refine g_iconst (v := 0) X dX9_search_136 (by decide) ?_
    refine cl_X9_58 X (by decide) (Nat.le_of_ble_eq_true rfl) dX9_search_137 h (fun M6 h => ?_)
    exact g_vret X hQ dX9_search_140 h
  · refine g_aload_n X dX9_search_34 rfl 0 rfl ?_
    refine fg_X9_15 X dX9_search_35 ?_
    refine g_iload_n X dX9_search_38 rfl 3 rfl ?_
    refine g_iconst (v := (-1)) X dX9_search_39 (by decide) ?_
    refine g_iast X ia_25 dX9_search_40 h (fun M7 h => ?_)
    refine g_aload_n X dX9_search_41 rfl 0 rfl ?_
    refine fg_X9_9 X dX9_search_42 ?_
    refine g_iload_n X dX9_search_45 rfl 3 rfl ?_
    refine g_iconst (v := (-1)) X dX9_search_46 (by decide) ?_
    refine g_iast X ia_24 dX9_search_47 h (fun M8 h => ?_)
    refine g_iload_n X dX9_search_48 rfl 3 rfl ?_
    refine g_aload_n X dX9_search_49 rfl 0 rfl ?_
    refine fg_X9_27 X dX9_search_50 ?_
    refine fg_X9_31 X dX9_search_53 ?_
    refine g_icmpge (tgt := 123) X dX9_search_56 (by decide) h (fun h => ?_) (fun h => ?_)
    · refine g_iinc (w := 1) X dX9_search_123 3 rfl (by decide) (Nat.le_of_ble_eq_true rfl) rfl (fun x3_9 => [(0, .ref (ad E 23)), (1, .ref (ad E o1)), (2, .int v2), (3, .int x3_9)]) (fun _ => rfl) h (fun x3_9 h => ?_)
      refine g_goto (tgt := 29) X dX9_search_126 (by decide) ?_
      exact h
    · refine g_aload_n X dX9_search_59 rfl 0 rfl ?_
      refine fg_X9_27 X dX9_search_60 ?_
      refine fg_X9_37 X dX9_search_63 ?_
      refine g_iload_n X dX9_search_66 rfl 3 rfl ?_
      refine g_iald X ia_10 dX9_search_67 h (fun h => ?_)
      refine g_iload_n X dX9_search_68 rfl 2 rfl ?_
      refine g_icmpne (tgt := 123) X dX9_search_69 (by decide) h (fun h => ?_) (fun h => ?_)
      · refine g_iinc (w := 1) X dX9_search_123 3 rfl (by decide) (Nat.le_of_ble_eq_true rfl) rfl (fun x3_10 => [(0, .ref (ad E 23)), (1, .ref (ad E o1)), (2, .int v2), (3, .int x3_10)]) (fun _ => rfl) h (fun x3_10 h => ?_)
        refine g_goto (tgt := 29) X dX9_search_126 (by decide) ?_
        exact h
      · refine g_aload_n X dX9_search_72 rfl 1 rfl ?_
        refine fg_X9_40 X ho1 dX9_search_73 ?_
        refine g_iload_n X dX9_search_76 rfl 3 rfl ?_
        refine g_zald X (af_za5 ho1) dX9_search_77 h (fun h => ?_)
        refine g_ifne (tgt := 123) X dX9_search_78 (by decide) h (fun h => ?_) (fun h => ?_)
        · refine g_iinc (w := 1) X dX9_search_123 3 rfl (by decide) (Nat.le_of_ble_eq_true rfl) rfl (fun x3_11 => [(0, .ref (ad E 23)), (1, .ref (ad E o1)), (2, .int v2), (3, .int x3_11)]) (fun _ => rfl) h (fun x3_11 h => ?_)
          refine g_goto (tgt := 29) X dX9_search_126 (by decide) ?_
          exact h
        · refine g_aload_n X dX9_search_81 rfl 0 rfl ?_
          refine fg_X9_9 X dX9_search_82 ?_
          refine g_iload_n X dX9_search_85 rfl 3 rfl ?_
          refine g_aload_n X dX9_search_86 rfl 1 rfl ?_
          refine fg_X9_46 X ho1 dX9_search_87 ?_
          refine g_iload_n X dX9_search_90 rfl 3 rfl ?_
          refine g_iald X (af_ia4 ho1) dX9_search_91 h (fun h => ?_)
          refine g_iast X ia_24 dX9_search_92 h (fun M12 h => ?_)
          refine g_aload_n X dX9_search_93 rfl 0 rfl ?_
          refine fg_X9_21 X dX9_search_94 ?_
          refine g_aload_n X dX9_search_97 rfl 0 rfl ?_
          refine fg_X9_27 X dX9_search_98 ?_
          refine fg_X9_49 X dX9_search_101 ?_
          refine g_iload_n X dX9_search_104 rfl 3 rfl ?_
          refine g_iald X ia_8 dX9_search_105 h (fun h => ?_)
          refine g_iload_n X dX9_search_106 rfl 3 rfl ?_
          refine g_iast X ia_27 dX9_search_107 h (fun M13 h => ?_)
          refine g_aload_n X dX9_search_108 rfl 0 rfl ?_
          refine fg_X9_21 X dX9_search_109 ?_
          refine g_aload_n X dX9_search_112 rfl 0 rfl ?_
          refine fg_X9_27 X dX9_search_113 ?_
          refine fg_X9_52 X dX9_search_116 ?_
          refine g_iload_n X dX9_search_119 rfl 3 rfl ?_
          refine g_iald X ia_9 dX9_search_120 h (fun h => ?_)
          refine g_iload_n X dX9_search_121 rfl 3 rfl ?_
          refine g_iast X ia_27 dX9_search_122 h (fun M14 h => ?_)
          refine g_iinc (w := 1) X dX9_search_123 3 rfl (by decide) (Nat.le_of_ble_eq_true rfl) rfl (fun x3_15 => [(0, .ref (ad E 23)), (1, .ref (ad E o1)), (2, .int v2), (3, .int x3_15)]) (fun _ => rfl) h (fun x3_15 h => ?_)
          refine g_goto (tgt := 29) X dX9_search_126 (by decide) ?_
          exact h
theorem k_X9_search_b2 {E : Ek} {x : MC} (X : Cx E x cX9_search 4 RX9 9) {Post : Mem → Prop} (hQ : QV E x Post none) {o1 : Nat} {v2 : Int32} (ho1 : Aff o1) {M : Mem} {v3 : Int32} (h : wp_X9_search_b2 Post o1 v2 (fun M v3 => G E x M 2 [(0, .ref (ad E 23)), (1, .ref (ad E o1)), (2, .int v2), (3, .int v3)] []) (fun M v3 => G E x M 29 [(0, .ref (ad E 23)), (1, .ref (ad E o1)), (2, .int v2), (3, .int v3)] []) M v3) : G E x M 2 [(0, .ref (ad E 23)), (1, .ref (ad E o1)), (2, .int v2), (3, .int v3)] [] := by
  refine g_iload_n X dX9_search_2 rfl 3 rfl ?_
  refine g_iconst (v := 4) X dX9_search_3 (by decide) ?_
  refine g_icmpge (tgt := 27) X dX9_search_4 (by decide) h (fun h => ?_) (fun h => ?_)
  · refine g_iconst (v := 0) X dX9_search_27 (by decide) ?_
    refine g_istore_n (lv' := [(0, .ref (ad E 23)), (1, .ref (ad E o1)), (2, .int v2), (3, .int 0)]) X dX9_search_28 rfl (Nat.le_of_ble_eq_true rfl) rfl rfl ?_
    exact h
  · refine g_aload_n X dX9_search_7 rfl 0 rfl ?_
    refine fg_X9_21 X dX9_search_8 ?_
    refine g_iload_n X dX9_search_11 rfl 3 rfl ?_
    refine g_iconst (v := (-1)) X dX9_search_12 (by decide) ?_
    refine g_iast X ia_27 dX9_search_13 h (fun M1 h => ?_)
    refine g_aload_n X dX9_search_14 rfl 0 rfl ?_
    refine fg_X9_24 X dX9_search_15 ?_
    refine g_iload_n X dX9_search_18 rfl 3 rfl ?_
    refine g_iconst (v := 0) X dX9_search_19 (by decide) ?_
    refine g_iast X ia_28 dX9_search_20 h (fun M2 h => ?_)
    refine g_iinc (w := 1) X dX9_search_21 3 rfl (by decide) (Nat.le_of_ble_eq_true rfl) rfl (fun x3_3 => [(0, .ref (ad E 23)), (1, .ref (ad E o1)), (2, .int v2), (3, .int x3_3)]) (fun _ => rfl) h (fun x3_3 h => ?_)
    refine g_goto (tgt := 2) X dX9_search_24 (by decide) ?_
    exact h
theorem w_X9_search (E : Ek) (l : Launch) {o1 : Nat} {v2 : Int32} (ho1 : Aff o1) {M : Mem} {Post : Mem → Prop} (h : wp_X9_search Post M o1 v2) : ctV E l yX9_search cX9_search 4 none 9 [.ref (ad E 23), .ref (ad E o1), .int v2] M Post := by
  refine ct_of (by decide) (Nat.le_of_ble_eq_true rfl) (fun x X hQ => ?_)
  have h := h (fun M v3 => G E x M 2 [(0, .ref (ad E 23)), (1, .ref (ad E o1)), (2, .int v2), (3, .int v3)] []) (fun M v3 => G E x M 29 [(0, .ref (ad E 23)), (1, .ref (ad E o1)), (2, .int v2), (3, .int v3)] []) (fun M v3 h => k_X9_search_b2 X hQ ho1 h) (fun M v3 h => k_X9_search_b29 X hQ ho1 h)
  change G E x M 0 [(0, .ref (ad E 23)), (1, .ref (ad E o1)), (2, .int v2)] []
  refine g_iconst (v := 0) X dX9_search_0 (by decide) ?_
  refine g_istore_n (lv' := [(0, .ref (ad E 23)), (1, .ref (ad E o1)), (2, .int v2), (3, .int 0)]) X dX9_search_1 rfl (Nat.le_of_ble_eq_true rfl) rfl rfl ?_
  exact h
theorem cl_X11_212 {E : Ek} {x : MC} {cc : ByteArray} {nL hm pc : Nat} {M : Mem} {lv : List (Nat × Value)} {st : List Value} (X : Cx E x cc nL RX11 hm) {o1 : Nat} {v2 : Int32} (ho1 : Aff o1) {Post : Mem → Prop} (hr : 9 < hm) (hW : (st.map fun v => v.category).sum ≤ 8) (hd : decode cc pc = .ok (.invokevirtual 212, 3)) (h : wp_X9_search Post M o1 v2) (kk : ∀ M1, Post M1 → G E x M1 (pc + 3) lv st) : G E x M pc lv (.int v2 :: .ref (ad E o1) :: .ref (ad E 23) :: st) := k_V (fun hP hS hL => run_VN X (w_X9_search E (xl x) ho1 h) cw_X9_search m385 m386 m387 (⟨by decide, fun E f h => ⟨_, _, _, rfl, rfl, rfl⟩⟩ : OC 23 RX9) hr rfl hd hW hP hS hL) kk
theorem cw_X11_cancel : CW yX11_cancel cX11_cancel 3 (some .int) 2 := ⟨m390, m10, Nat.le_of_ble_eq_true rfl, by decide +kernel⟩
def wp_X11_cancel_b30 (Post : Int32 → Mem → Prop) (v1 : Int32) (v2 : Int32) (M : Mem) : Prop :=
 wp_X9_search (fun M4 =>
  (¬ v2 = 0 →
   vp_in (v2 - 10) 4 ∧
   Post (rd M4 26 (v2 - 10).toNatClampNeg) M4) ∧
  (v2 = 0 →
   Post (rd M4 23 6) M4)) M 59 v1
def wp_X11_cancel (Post : Int32 → Mem → Prop) (M : Mem) (v1 : Int32) (v2 : Int32) : Prop :=
 wp_X11_isNoRoom (fun r1 M2 =>
  (r1 = 0 →
   (v2 = 0 →
    wp_X11_cancel_b30 Post v1 v2 M2) ∧
   (¬ v2 = 0 →
    (v2 < 10 →
     Post (-102) M2) ∧
    (¬ v2 < 10 →
     (v2 ≤ 13 →
      wp_X11_cancel_b30 Post v1 v2 M2) ∧
     (¬ v2 ≤ 13 →
      Post (-102) M2)))) ∧
  (¬ r1 = 0 →
   Post (-101) M2)) M v1
theorem k_X11_cancel_b30 {E : Ek} {x : MC} (X : Cx E x cX11_cancel 3 RX11 10) {Post : Int32 → Mem → Prop} (hQ : QI E x Post (some .int)) {v1 : Int32} {v2 : Int32} {M : Mem} (h : wp_X11_cancel_b30 Post v1 v2 M ) : G E x M 30 [(0, .ref (ad E 0)), (1, .int v1), (2, .int v2)] [] := by
  refine g_aload_n X dX11_cancel_30 rfl 0 rfl ?_
  refine fg_X11_55 X dX11_cancel_31 ?_
  refine g_aload_n X dX11_cancel_34 rfl 0 rfl ?_
  refine fg_X11_28 X dX11_cancel_35 ?_
  refine g_iload_n X dX11_cancel_38 rfl 1 rfl ?_
  refine cl_X11_212 X aff_59 (by decide) (Nat.le_of_ble_eq_true rfl) dX11_cancel_39 h (fun M4 h => ?_)
  refine g_iload_n X dX11_cancel_42 rfl 2 rfl ?_
  refine g_ifne (tgt := 56) X dX11_cancel_43 (by decide) h (fun h => ?_) (fun h => ?_)
  · refine g_aload_n X dX11_cancel_56 rfl 0 rfl ?_
    refine fg_X11_55 X dX11_cancel_57 ?_
    refine fg_X11_216 X dX11_cancel_60 ?_
    refine g_iload_n X dX11_cancel_63 rfl 2 rfl ?_
    refine g_bipush (v := 10) X dX11_cancel_64 (by decide) ?_
    refine g_isub X dX11_cancel_66 ?_
    refine g_iald X ia_26 dX11_cancel_67 h (fun h => ?_)
    exact g_iret X hQ dX11_cancel_68 h
  · refine g_aload_n X dX11_cancel_46 rfl 0 rfl ?_
    refine fg_X11_55 X dX11_cancel_47 ?_
    refine fg_X11_215 X dX11_cancel_50 ?_
    refine g_goto (tgt := 68) X dX11_cancel_53 (by decide) ?_
    exact g_iret X hQ dX11_cancel_68 h
theorem w_X11_cancel (E : Ek) (l : Launch) {v1 : Int32} {v2 : Int32} {M : Mem} {Post : Int32 → Mem → Prop} (h : wp_X11_cancel Post M v1 v2) : ctI E l yX11_cancel cX11_cancel 3 (some .int) 10 [.ref (ad E 0), .int v1, .int v2] M Post := by
  refine ct_of (by decide) (Nat.le_of_ble_eq_true rfl) (fun x X hQ => ?_)
  change G E x M 0 [(0, .ref (ad E 0)), (1, .int v1), (2, .int v2)] []
  refine g_aload_n X dX11_cancel_0 rfl 0 rfl ?_
  refine g_iload_n X dX11_cancel_1 rfl 1 rfl ?_
  refine cl_X11_190 X (by decide) (Nat.le_of_ble_eq_true rfl) dX11_cancel_2 h (fun r1 M2 h => ?_)
  refine g_ifeq (tgt := 11) X dX11_cancel_5 (by decide) h (fun h => ?_) (fun h => ?_)
  · refine g_iload_n X dX11_cancel_11 rfl 2 rfl ?_
    refine g_ifeq (tgt := 30) X dX11_cancel_12 (by decide) h (fun h => ?_) (fun h => ?_)
    · exact (k_X11_cancel_b30 X hQ  h)
    · refine g_iload_n X dX11_cancel_15 rfl 2 rfl ?_
      refine g_bipush (v := 10) X dX11_cancel_16 (by decide) ?_
      refine g_icmplt (tgt := 27) X dX11_cancel_18 (by decide) h (fun h => ?_) (fun h => ?_)
      · refine g_bipush (v := (-102)) X dX11_cancel_27 (by decide) ?_
        exact g_iret X hQ dX11_cancel_29 h
      · refine g_iload_n X dX11_cancel_21 rfl 2 rfl ?_
        refine g_bipush (v := 13) X dX11_cancel_22 (by decide) ?_
        refine g_icmple (tgt := 30) X dX11_cancel_24 (by decide) h (fun h => ?_) (fun h => ?_)
        · exact (k_X11_cancel_b30 X hQ  h)
        · refine g_bipush (v := (-102)) X dX11_cancel_27 (by decide) ?_
          exact g_iret X hQ dX11_cancel_29 h
  · refine g_bipush (v := (-101)) X dX11_cancel_8 (by decide) ?_
    exact g_iret X hQ dX11_cancel_10 h
theorem cl_X11_282 {E : Ek} {x : MC} {cc : ByteArray} {nL hm pc : Nat} {M : Mem} {lv : List (Nat × Value)} {st : List Value} (X : Cx E x cc nL RX11 hm) {v1 : Int32} {v2 : Int32} {Post : Int32 → Mem → Prop} (hr : 10 < hm) (hW : (st.map fun v => v.category).sum ≤ 8) (hd : decode cc pc = .ok (.invokevirtual 282, 3)) (h : wp_X11_cancel Post M v1 v2) (kk : ∀ r M1, Post r M1 → G E x M1 (pc + 3) lv (.int r :: st)) : G E x M pc lv (.int v2 :: .int v1 :: .ref (ad E 0) :: st) := k_I (fun hP hS hL => run_V X (w_X11_cancel E (xl x)  h) cw_X11_cancel m490 m491 m492 (⟨by decide, fun E f h => ⟨_, _, _, rfl, rfl, rfl⟩⟩ : OC 0 RX11) hr rfl hd hW hP hS hL) kk
theorem cw_X0_owesStill : CW yX0_owesStill cX0_owesStill 3 (some .boolean) 2 := ⟨m391, m144, Nat.le_of_ble_eq_true rfl, by decide +kernel⟩
def wp_X0_owesStill (Post : Int32 → Mem → Prop) (M : Mem) (o : Nat) (v1 : Int32) (v2 : Int32) : Prop :=
 vp_in v2 4 ∧
 (¬ (rd M 8 v2.toNatClampNeg) = v1 →
  Post 0 M) ∧
 ((rd M 8 v2.toNatClampNeg) = v1 →
  vp_in v2 4 ∧
  (¬ (rd M (o + 5) v2.toNatClampNeg) = 0 →
   Post 0 M) ∧
  ((rd M (o + 5) v2.toNatClampNeg) = 0 →
   Post 1 M))
theorem w_X0_owesStill (E : Ek) (l : Launch) {o : Nat} {v1 : Int32} {v2 : Int32} (ho : Aff o) {M : Mem} {Post : Int32 → Mem → Prop} (h : wp_X0_owesStill Post M o v1 v2) : ctI E l yX0_owesStill cX0_owesStill 3 (some .boolean) 1 [.ref (ad E o), .int v1, .int v2] M Post := by
  refine ct_of (by decide) (Nat.le_of_ble_eq_true rfl) (fun x X hQ => ?_)
  change G E x M 0 [(0, .ref (ad E o)), (1, .int v1), (2, .int v2)] []
  refine g_aload_n X dX0_owesStill_0 rfl 0 rfl ?_
  refine fg_X0_34 X ho dX0_owesStill_1 ?_
  refine fg_X0_71 X dX0_owesStill_4 ?_
  refine g_iload_n X dX0_owesStill_7 rfl 2 rfl ?_
  refine g_iald X ia_8 dX0_owesStill_8 h (fun h => ?_)
  refine g_iload_n X dX0_owesStill_9 rfl 1 rfl ?_
  refine g_icmpne (tgt := 26) X dX0_owesStill_10 (by decide) h (fun h => ?_) (fun h => ?_)
  · refine g_iconst (v := 0) X dX0_owesStill_26 (by decide) ?_
    exact g_zret X hQ dX0_owesStill_27 ⟨Or.inl rfl, h⟩
  · refine g_aload_n X dX0_owesStill_13 rfl 0 rfl ?_
    refine fg_X0_24 X ho dX0_owesStill_14 ?_
    refine g_iload_n X dX0_owesStill_17 rfl 2 rfl ?_
    refine g_zald X (af_za5 ho) dX0_owesStill_18 h (fun h => ?_)
    refine g_ifne (tgt := 26) X dX0_owesStill_19 (by decide) h (fun h => ?_) (fun h => ?_)
    · refine g_iconst (v := 0) X dX0_owesStill_26 (by decide) ?_
      exact g_zret X hQ dX0_owesStill_27 ⟨Or.inl rfl, h⟩
    · refine g_iconst (v := 1) X dX0_owesStill_22 (by decide) ?_
      refine g_goto (tgt := 27) X dX0_owesStill_23 (by decide) ?_
      exact g_zret X hQ dX0_owesStill_27 ⟨Or.inr rfl, h⟩
theorem cl_X0_106 {E : Ek} {x : MC} {cc : ByteArray} {nL hm pc : Nat} {M : Mem} {lv : List (Nat × Value)} {st : List Value} (X : Cx E x cc nL RX0 hm) {o : Nat} {v1 : Int32} {v2 : Int32} (ho : Aff o) {Post : Int32 → Mem → Prop} (hr : 1 < hm) (hW : (st.map fun v => v.category).sum ≤ 8) (hd : decode cc pc = .ok (.invokevirtual 106, 3)) (h : wp_X0_owesStill Post M o v1 v2) (kk : ∀ r M1, Post r M1 → G E x M1 (pc + 3) lv (.int r :: st)) : G E x M pc lv (.int v2 :: .int v1 :: .ref (ad E o) :: st) := k_I (fun hP hS hL => run_V X (w_X0_owesStill E (xl x) ho h) cw_X0_owesStill m392 m393 m394 (af_oc ho) hr rfl hd hW hP hS hL) kk
theorem cw_X0_costOfAll : CW yX0_costOfAll cX0_costOfAll 4 (some .int) 1 := ⟨m395, m144, Nat.le_of_ble_eq_true rfl, by decide +kernel⟩
def wp_X0_costOfAll_b4 (Post : Int32 → Mem → Prop) (o : Nat) (v1 : Int32) (P4 : Mem → Int32 → Int32 → Prop) (M : Mem) (v2 : Int32) (v3 : Int32) : Prop :=
 ((rd M 3 3) ≤ v3 →
  Post v2 M) ∧
 (¬ (rd M 3 3) ≤ v3 →
  wp_X0_owesStill (fun r1 M2 =>
   (r1 = 0 →
    ∀ x3_3 : Int32, x3_3 = v3 + 1 →
    P4 M2 v2 x3_3) ∧
   (¬ r1 = 0 →
    wp_X0_costOf (fun r4 M5 =>
     ∀ x2_6 : Int32, x2_6 = v2 + r4 →
     ∀ x3_7 : Int32, x3_7 = v3 + 1 →
     P4 M5 x2_6 x3_7) M2 o v3)) M o v1 v3)
def wp_X0_costOfAll (Post : Int32 → Mem → Prop) (M : Mem) (o : Nat) (v1 : Int32) : Prop :=
 ∀ (P4 : Mem → Int32 → Int32 → Prop) ,
  (∀ (M : Mem) (v2 : Int32) (v3 : Int32), wp_X0_costOfAll_b4 Post o v1 P4 M v2 v3 → P4 M v2 v3) →
 P4 M 0 0
theorem k_X0_costOfAll_b4 {E : Ek} {x : MC} (X : Cx E x cX0_costOfAll 4 RX0 3) {Post : Int32 → Mem → Prop} (hQ : QI E x Post (some .int)) {o : Nat} {v1 : Int32} (ho : Aff o) {M : Mem} {v2 : Int32} {v3 : Int32} (h : wp_X0_costOfAll_b4 Post o v1 (fun M v2 v3 => G E x M 4 [(0, .ref (ad E o)), (1, .int v1), (2, .int v2), (3, .int v3)] []) M v2 v3) : G E x M 4 [(0, .ref (ad E o)), (1, .int v1), (2, .int v2), (3, .int v3)] [] := by
  refine g_iload_n X dX0_costOfAll_4 rfl 3 rfl ?_
  refine g_aload_n X dX0_costOfAll_5 rfl 0 rfl ?_
  refine fg_X0_34 X ho dX0_costOfAll_6 ?_
  refine fg_X0_95 X dX0_costOfAll_9 ?_
  refine g_icmpge (tgt := 38) X dX0_costOfAll_12 (by decide) h (fun h => ?_) (fun h => ?_)
  · refine g_iload_n X dX0_costOfAll_38 rfl 2 rfl ?_
    exact g_iret X hQ dX0_costOfAll_39 h
  · refine g_aload_n X dX0_costOfAll_15 rfl 0 rfl ?_
    refine g_iload_n X dX0_costOfAll_16 rfl 1 rfl ?_
    refine g_iload_n X dX0_costOfAll_17 rfl 3 rfl ?_
    refine cl_X0_106 X ho (by decide) (Nat.le_of_ble_eq_true rfl) dX0_costOfAll_18 h (fun r1 M2 h => ?_)
    refine g_ifeq (tgt := 32) X dX0_costOfAll_21 (by decide) h (fun h => ?_) (fun h => ?_)
    · refine g_iinc (w := 1) X dX0_costOfAll_32 3 rfl (by decide) (Nat.le_of_ble_eq_true rfl) rfl (fun x3_3 => [(0, .ref (ad E o)), (1, .int v1), (2, .int v2), (3, .int x3_3)]) (fun _ => rfl) h (fun x3_3 h => ?_)
      refine g_goto (tgt := 4) X dX0_costOfAll_35 (by decide) ?_
      exact h
    · refine g_iload_n X dX0_costOfAll_24 rfl 2 rfl ?_
      refine g_aload_n X dX0_costOfAll_25 rfl 0 rfl ?_
      refine g_iload_n X dX0_costOfAll_26 rfl 3 rfl ?_
      refine cl_X0_78 X ho (by decide) (Nat.le_of_ble_eq_true rfl) dX0_costOfAll_27 h (fun r4 M5 h => ?_)
      refine g_iadd X dX0_costOfAll_30 ?_
      refine g_nm h (fun x2_6 h => ?_)
      refine g_istore_n (lv' := [(0, .ref (ad E o)), (1, .int v1), (2, .int x2_6), (3, .int v3)]) X dX0_costOfAll_31 rfl (Nat.le_of_ble_eq_true rfl) rfl rfl ?_
      refine g_iinc (w := 1) X dX0_costOfAll_32 3 rfl (by decide) (Nat.le_of_ble_eq_true rfl) rfl (fun x3_7 => [(0, .ref (ad E o)), (1, .int v1), (2, .int x2_6), (3, .int x3_7)]) (fun _ => rfl) h (fun x3_7 h => ?_)
      refine g_goto (tgt := 4) X dX0_costOfAll_35 (by decide) ?_
      exact h
theorem w_X0_costOfAll (E : Ek) (l : Launch) {o : Nat} {v1 : Int32} (ho : Aff o) {M : Mem} {Post : Int32 → Mem → Prop} (h : wp_X0_costOfAll Post M o v1) : ctI E l yX0_costOfAll cX0_costOfAll 4 (some .int) 3 [.ref (ad E o), .int v1] M Post := by
  refine ct_of (by decide) (Nat.le_of_ble_eq_true rfl) (fun x X hQ => ?_)
  have h := h (fun M v2 v3 => G E x M 4 [(0, .ref (ad E o)), (1, .int v1), (2, .int v2), (3, .int v3)] []) (fun M v2 v3 h => k_X0_costOfAll_b4 X hQ ho h)
  change G E x M 0 [(0, .ref (ad E o)), (1, .int v1)] []
  refine g_iconst (v := 0) X dX0_costOfAll_0 (by decide) ?_
  refine g_istore_n (lv' := [(0, .ref (ad E o)), (1, .int v1), (2, .int 0)]) X dX0_costOfAll_1 rfl (Nat.le_of_ble_eq_true rfl) rfl rfl ?_
  refine g_iconst (v := 0) X dX0_costOfAll_2 (by decide) ?_
  refine g_istore_n (lv' := [(0, .ref (ad E o)), (1, .int v1), (2, .int 0), (3, .int 0)]) X dX0_costOfAll_3 rfl (Nat.le_of_ble_eq_true rfl) rfl rfl ?_
  exact h
theorem cl_X0_112 {E : Ek} {x : MC} {cc : ByteArray} {nL hm pc : Nat} {M : Mem} {lv : List (Nat × Value)} {st : List Value} (X : Cx E x cc nL RX0 hm) {o : Nat} {v1 : Int32} (ho : Aff o) {Post : Int32 → Mem → Prop} (hr : 3 < hm) (hW : (st.map fun v => v.category).sum ≤ 8) (hd : decode cc pc = .ok (.invokevirtual 112, 3)) (h : wp_X0_costOfAll Post M o v1) (kk : ∀ r M1, Post r M1 → G E x M1 (pc + 3) lv (.int r :: st)) : G E x M pc lv (.int v1 :: .ref (ad E o) :: st) := k_I (fun hP hS hL => run_V X (w_X0_costOfAll E (xl x) ho h) cw_X0_costOfAll m398 m399 m400 (af_oc ho) hr rfl hd hW hP hS hL) kk
theorem cw_X0_settleAll : CW yX0_settleAll cX0_settleAll 3 none 1 := ⟨m396, m144, Nat.le_of_ble_eq_true rfl, by decide +kernel⟩
def wp_X0_settleAll_b2 (Post : Mem → Prop) (o : Nat) (v1 : Int32) (P2 : Mem → Int32 → Prop) (M : Mem) (v2 : Int32) : Prop :=
 ((rd M 3 3) ≤ v2 →
  Post M) ∧
 (¬ (rd M 3 3) ≤ v2 →
  wp_X0_owesStill (fun r1 M2 =>
   (r1 = 0 →
    ∀ x2_3 : Int32, x2_3 = v2 + 1 →
    P2 M2 x2_3) ∧
   (¬ r1 = 0 →
    wp_X0_settle (fun M5 =>
     ∀ x2_6 : Int32, x2_6 = v2 + 1 →
     P2 M5 x2_6) M2 o v2)) M o v1 v2)
def wp_X0_settleAll (Post : Mem → Prop) (M : Mem) (o : Nat) (v1 : Int32) : Prop :=
 ∀ (P2 : Mem → Int32 → Prop) ,
  (∀ (M : Mem) (v2 : Int32), wp_X0_settleAll_b2 Post o v1 P2 M v2 → P2 M v2) →
 P2 M 0
theorem k_X0_settleAll_b2 {E : Ek} {x : MC} (X : Cx E x cX0_settleAll 3 RX0 4) {Post : Mem → Prop} (hQ : QV E x Post none) {o : Nat} {v1 : Int32} (ho : Aff o) {M : Mem} {v2 : Int32} (h : wp_X0_settleAll_b2 Post o v1 (fun M v2 => G E x M 2 [(0, .ref (ad E o)), (1, .int v1), (2, .int v2)] []) M v2) : G E x M 2 [(0, .ref (ad E o)), (1, .int v1), (2, .int v2)] [] := by
  refine g_iload_n X dX0_settleAll_2 rfl 2 rfl ?_
  refine g_aload_n X dX0_settleAll_3 rfl 0 rfl ?_
  refine fg_X0_34 X ho dX0_settleAll_4 ?_
  refine fg_X0_95 X dX0_settleAll_7 ?_
  refine g_icmpge (tgt := 33) X dX0_settleAll_10 (by decide) h (fun h => ?_) (fun h => ?_)
  · exact g_vret X hQ dX0_settleAll_33 h
  · refine g_aload_n X dX0_settleAll_13 rfl 0 rfl ?_
    refine g_iload_n X dX0_settleAll_14 rfl 1 rfl ?_
    refine g_iload_n X dX0_settleAll_15 rfl 2 rfl ?_
    refine cl_X0_106 X ho (by decide) (Nat.le_of_ble_eq_true rfl) dX0_settleAll_16 h (fun r1 M2 h => ?_)
    refine g_ifeq (tgt := 27) X dX0_settleAll_19 (by decide) h (fun h => ?_) (fun h => ?_)
    · refine g_iinc (w := 1) X dX0_settleAll_27 2 rfl (by decide) (Nat.le_of_ble_eq_true rfl) rfl (fun x2_3 => [(0, .ref (ad E o)), (1, .int v1), (2, .int x2_3)]) (fun _ => rfl) h (fun x2_3 h => ?_)
      refine g_goto (tgt := 2) X dX0_settleAll_30 (by decide) ?_
      exact h
    · refine g_aload_n X dX0_settleAll_22 rfl 0 rfl ?_
      refine g_iload_n X dX0_settleAll_23 rfl 2 rfl ?_
      refine cl_X0_102 X ho (by decide) (Nat.le_of_ble_eq_true rfl) dX0_settleAll_24 h (fun M5 h => ?_)
      refine g_iinc (w := 1) X dX0_settleAll_27 2 rfl (by decide) (Nat.le_of_ble_eq_true rfl) rfl (fun x2_6 => [(0, .ref (ad E o)), (1, .int v1), (2, .int x2_6)]) (fun _ => rfl) h (fun x2_6 h => ?_)
      refine g_goto (tgt := 2) X dX0_settleAll_30 (by decide) ?_
      exact h
theorem w_X0_settleAll (E : Ek) (l : Launch) {o : Nat} {v1 : Int32} (ho : Aff o) {M : Mem} {Post : Mem → Prop} (h : wp_X0_settleAll Post M o v1) : ctV E l yX0_settleAll cX0_settleAll 3 none 4 [.ref (ad E o), .int v1] M Post := by
  refine ct_of (by decide) (Nat.le_of_ble_eq_true rfl) (fun x X hQ => ?_)
  have h := h (fun M v2 => G E x M 2 [(0, .ref (ad E o)), (1, .int v1), (2, .int v2)] []) (fun M v2 h => k_X0_settleAll_b2 X hQ ho h)
  change G E x M 0 [(0, .ref (ad E o)), (1, .int v1)] []
  refine g_iconst (v := 0) X dX0_settleAll_0 (by decide) ?_
  refine g_istore_n (lv' := [(0, .ref (ad E o)), (1, .int v1), (2, .int 0)]) X dX0_settleAll_1 rfl (Nat.le_of_ble_eq_true rfl) rfl rfl ?_
  exact h
theorem cl_X0_115 {E : Ek} {x : MC} {cc : ByteArray} {nL hm pc : Nat} {M : Mem} {lv : List (Nat × Value)} {st : List Value} (X : Cx E x cc nL RX0 hm) {o : Nat} {v1 : Int32} (ho : Aff o) {Post : Mem → Prop} (hr : 4 < hm) (hW : (st.map fun v => v.category).sum ≤ 8) (hd : decode cc pc = .ok (.invokevirtual 115, 3)) (h : wp_X0_settleAll Post M o v1) (kk : ∀ M1, Post M1 → G E x M1 (pc + 3) lv st) : G E x M pc lv (.int v1 :: .ref (ad E o) :: st) := k_V (fun hP hS hL => run_V X (w_X0_settleAll E (xl x) ho h) cw_X0_settleAll m401 m402 m403 (af_oc ho) hr rfl hd hW hP hS hL) kk
theorem cw_X0_payWhoCan : CW yX0_payWhoCan cX0_payWhoCan 3 (some .int) 0 := ⟨m404, m144, Nat.le_of_ble_eq_true rfl, by decide +kernel⟩
def wp_X0_payWhoCan_b61 (Post : Int32 → Mem → Prop) (o : Nat) (P2 : Mem → Int32 → Prop) (P15 : Mem → Int32 → Int32 → Prop) (P61 : Mem → Int32 → Int32 → Prop) (M : Mem) (v1 : Int32) (v2 : Int32) : Prop :=
 ((rd M 3 2) ≤ v2 →
  Post v1 M) ∧
 (¬ (rd M 3 2) ≤ v2 →
  wp_X0_costOfAll (fun r8 M9 =>
   (¬ r8 = 0 →
    ∀ x2_10 : Int32, x2_10 = v2 + 1 →
    P61 M9 v1 x2_10) ∧
   (r8 = 0 →
    ∀ x1_11 : Int32, x1_11 = v1 ||| ((1 : Int32) <<< (v2 &&& 31)) →
    ∀ x2_12 : Int32, x2_12 = v2 + 1 →
    P61 M9 x1_11 x2_12)) M o v2)
def wp_X0_payWhoCan_b15 (Post : Int32 → Mem → Prop) (o : Nat) (P2 : Mem → Int32 → Prop) (P15 : Mem → Int32 → Int32 → Prop) (P61 : Mem → Int32 → Int32 → Prop) (M : Mem) (v1 : Int32) (v2 : Int32) : Prop :=
 ((rd M 3 2) ≤ v2 →
  ∀ x1_1 : Int32, x1_1 = v1 + 1 →
  P2 M x1_1) ∧
 (¬ (rd M 3 2) ≤ v2 →
  vp_in v2 4 ∧
  wp_X0_costOfAll (fun r2 M3 =>
   ((rd M (o + 1) v2.toNatClampNeg) < r2 →
    ∀ x2_4 : Int32, x2_4 = v2 + 1 →
    P15 M3 v1 x2_4) ∧
   (¬ (rd M (o + 1) v2.toNatClampNeg) < r2 →
    wp_X0_settleAll (fun M6 =>
     ∀ x2_7 : Int32, x2_7 = v2 + 1 →
     P15 M6 v1 x2_7) M3 o v2)) M o v2)
def wp_X0_payWhoCan_b2 (Post : Int32 → Mem → Prop) (o : Nat) (P2 : Mem → Int32 → Prop) (P15 : Mem → Int32 → Int32 → Prop) (P61 : Mem → Int32 → Int32 → Prop) (M : Mem) (v1 : Int32) : Prop :=
 ((rd M 3 2) ≤ v1 →
  P61 M 0 0) ∧
 (¬ (rd M 3 2) ≤ v1 →
  P15 M v1 0)
def wp_X0_payWhoCan (Post : Int32 → Mem → Prop) (M : Mem) (o : Nat) : Prop :=
 ∀ (P2 : Mem → Int32 → Prop) (P15 : Mem → Int32 → Int32 → Prop) (P61 : Mem → Int32 → Int32 → Prop) ,
  (∀ (M : Mem) (v1 : Int32), wp_X0_payWhoCan_b2 Post o P2 P15 P61 M v1 → P2 M v1) →
  (∀ (M : Mem) (v1 : Int32) (v2 : Int32), wp_X0_payWhoCan_b15 Post o P2 P15 P61 M v1 v2 → P15 M v1 v2) →
  (∀ (M : Mem) (v1 : Int32) (v2 : Int32), wp_X0_payWhoCan_b61 Post o P2 P15 P61 M v1 v2 → P61 M v1 v2) →
 P2 M 0
theorem k_X0_payWhoCan_b61 {E : Ek} {x : MC} (X : Cx E x cX0_payWhoCan 3 RX0 5) {Post : Int32 → Mem → Prop} (hQ : QI E x Post (some .int)) {o : Nat} (ho : Aff o) {M : Mem} {v1 : Int32} {v2 : Int32} (h : wp_X0_payWhoCan_b61 Post o (fun M v1 => G E x M 2 [(0, .ref (ad E o)), (1, .int v1)] []) (fun M v1 v2 => G E x M 15 [(0, .ref (ad E o)), (1, .int v1), (2, .int v2)] []) (fun M v1 v2 => G E x M 61 [(0, .ref (ad E o)), (1, .int v1), (2, .int v2)] []) M v1 v2) : G E x M 61 [(0, .ref (ad E o)), (1, .int v1), (2, .int v2)] [] := by
  refine g_iload_n X dX0_payWhoCan_61 rfl 2 rfl ?_
  refine g_aload_n X dX0_payWhoCan_62 rfl 0 rfl ?_
  refine fg_X0_34 X ho dX0_payWhoCan_63 ?_
  refine fg_X0_109 X dX0_payWhoCan_66 ?_
  refine g_icmpge (tgt := 92) X dX0_payWhoCan_69 (by decide) h (fun h => ?_) (fun h => ?_)
  · refine g_iload_n X dX0_payWhoCan_92 rfl 1 rfl ?_
    exact g_iret X hQ dX0_payWhoCan_93 h
  · refine g_aload_n X dX0_payWhoCan_72 rfl 0 rfl ?_
    refine g_iload_n X dX0_payWhoCan_73 rfl 2 rfl ?_
    refine cl_X0_112 X ho (by decide) (Nat.le_of_ble_eq_true rfl) dX0_payWhoCan_74 h (fun r8 M9 h => ?_)
    refine g_ifne (tgt := 86) X dX0_payWhoCan_77 (by decide) h (fun h => ?_) (fun h => ?_)
    · refine g_iinc (w := 1) X dX0_payWhoCan_86 2 rfl (by decide) (Nat.le_of_ble_eq_true rfl) rfl (fun x2_10 => [(0, .ref (ad E o)), (1, .int v1), (2, .int x2_10)]) (fun _ => rfl) h (fun x2_10 h => ?_)
      refine g_goto (tgt := 61) X dX0_payWhoCan_89 (by decide) ?_
      exact h
    · refine g_iload_n X dX0_payWhoCan_80 rfl 1 rfl ?_
      refine g_iconst (v := 1) X dX0_payWhoCan_81 (by decide) ?_
      refine g_iload_n X dX0_payWhoCan_82 rfl 2 rfl ?_
      refine g_ishl X dX0_payWhoCan_83 ?_
      refine g_ior X dX0_payWhoCan_84 ?_
      refine g_nm h (fun x1_11 h => ?_)
      refine g_istore_n (lv' := [(0, .ref (ad E o)), (1, .int x1_11), (2, .int v2)]) X dX0_payWhoCan_85 rfl (Nat.le_of_ble_eq_true rfl) rfl rfl ?_
      refine g_iinc (w := 1) X dX0_payWhoCan_86 2 rfl (by decide) (Nat.le_of_ble_eq_true rfl) rfl (fun x2_12 => [(0, .ref (ad E o)), (1, .int x1_11), (2, .int x2_12)]) (fun _ => rfl) h (fun x2_12 h => ?_)
      refine g_goto (tgt := 61) X dX0_payWhoCan_89 (by decide) ?_
      exact h
theorem k_X0_payWhoCan_b15 {E : Ek} {x : MC} (X : Cx E x cX0_payWhoCan 3 RX0 5) {Post : Int32 → Mem → Prop} (hQ : QI E x Post (some .int)) {o : Nat} (ho : Aff o) {M : Mem} {v1 : Int32} {v2 : Int32} (h : wp_X0_payWhoCan_b15 Post o (fun M v1 => G E x M 2 [(0, .ref (ad E o)), (1, .int v1)] []) (fun M v1 v2 => G E x M 15 [(0, .ref (ad E o)), (1, .int v1), (2, .int v2)] []) (fun M v1 v2 => G E x M 61 [(0, .ref (ad E o)), (1, .int v1), (2, .int v2)] []) M v1 v2) : G E x M 15 [(0, .ref (ad E o)), (1, .int v1), (2, .int v2)] [] := by
  refine g_iload_n X dX0_payWhoCan_15 rfl 2 rfl ?_
  refine g_aload_n X dX0_payWhoCan_16 rfl 0 rfl ?_
  refine fg_X0_34 X ho dX0_payWhoCan_17 ?_
  refine fg_X0_109 X dX0_payWhoCan_20 ?_
  refine g_icmpge (tgt := 51) X dX0_payWhoCan_23 (by decide) h (fun h => ?_) (fun h => ?_)
  · refine g_iinc (w := 1) X dX0_payWhoCan_51 1 rfl (by decide) (Nat.le_of_ble_eq_true rfl) rfl (fun x1_1 => [(0, .ref (ad E o)), (1, .int x1_1), (2, .int v2)]) (fun _ => rfl) h (fun x1_1 h => ?_)
    refine g_goto (tgt := 2) X dX0_payWhoCan_54 (by decide) ?_
    exact g_sub [0, 1] rfl h
  · refine g_aload_n X dX0_payWhoCan_26 rfl 0 rfl ?_
    refine fg_X0_9 X ho dX0_payWhoCan_27 ?_
    refine g_iload_n X dX0_payWhoCan_30 rfl 2 rfl ?_
    refine g_iald X (af_ia1 ho) dX0_payWhoCan_31 h (fun h => ?_)
    refine g_aload_n X dX0_payWhoCan_32 rfl 0 rfl ?_
    refine g_iload_n X dX0_payWhoCan_33 rfl 2 rfl ?_
    refine cl_X0_112 X ho (by decide) (Nat.le_of_ble_eq_true rfl) dX0_payWhoCan_34 h (fun r2 M3 h => ?_)
    refine g_icmplt (tgt := 45) X dX0_payWhoCan_37 (by decide) h (fun h => ?_) (fun h => ?_)
    · refine g_iinc (w := 1) X dX0_payWhoCan_45 2 rfl (by decide) (Nat.le_of_ble_eq_true rfl) rfl (fun x2_4 => [(0, .ref (ad E o)), (1, .int v1), (2, .int x2_4)]) (fun _ => rfl) h (fun x2_4 h => ?_)
      refine g_goto (tgt := 15) X dX0_payWhoCan_48 (by decide) ?_
      exact h
    · refine g_aload_n X dX0_payWhoCan_40 rfl 0 rfl ?_
      refine g_iload_n X dX0_payWhoCan_41 rfl 2 rfl ?_
      refine cl_X0_115 X ho (by decide) (Nat.le_of_ble_eq_true rfl) dX0_payWhoCan_42 h (fun M6 h => ?_)
      refine g_iinc (w := 1) X dX0_payWhoCan_45 2 rfl (by decide) (Nat.le_of_ble_eq_true rfl) rfl (fun x2_7 => [(0, .ref (ad E o)), (1, .int v1), (2, .int x2_7)]) (fun _ => rfl) h (fun x2_7 h => ?_)
      refine g_goto (tgt := 15) X dX0_payWhoCan_48 (by decide) ?_
      exact h
theorem k_X0_payWhoCan_b2 {E : Ek} {x : MC} (X : Cx E x cX0_payWhoCan 3 RX0 5) {Post : Int32 → Mem → Prop} (hQ : QI E x Post (some .int)) {o : Nat} (ho : Aff o) {M : Mem} {v1 : Int32} (h : wp_X0_payWhoCan_b2 Post o (fun M v1 => G E x M 2 [(0, .ref (ad E o)), (1, .int v1)] []) (fun M v1 v2 => G E x M 15 [(0, .ref (ad E o)), (1, .int v1), (2, .int v2)] []) (fun M v1 v2 => G E x M 61 [(0, .ref (ad E o)), (1, .int v1), (2, .int v2)] []) M v1) : G E x M 2 [(0, .ref (ad E o)), (1, .int v1)] [] := by
  refine g_iload_n X dX0_payWhoCan_2 rfl 1 rfl ?_
  refine g_aload_n X dX0_payWhoCan_3 rfl 0 rfl ?_
  refine fg_X0_34 X ho dX0_payWhoCan_4 ?_
  refine fg_X0_109 X dX0_payWhoCan_7 ?_
  refine g_icmpge (tgt := 57) X dX0_payWhoCan_10 (by decide) h (fun h => ?_) (fun h => ?_)
  · refine g_iconst (v := 0) X dX0_payWhoCan_57 (by decide) ?_
    refine g_istore_n (lv' := [(0, .ref (ad E o)), (1, .int 0)]) X dX0_payWhoCan_58 rfl (Nat.le_of_ble_eq_true rfl) rfl rfl ?_
    refine g_iconst (v := 0) X dX0_payWhoCan_59 (by decide) ?_
    refine g_istore_n (lv' := [(0, .ref (ad E o)), (1, .int 0), (2, .int 0)]) X dX0_payWhoCan_60 rfl (Nat.le_of_ble_eq_true rfl) rfl rfl ?_
    exact h
  · refine g_iconst (v := 0) X dX0_payWhoCan_13 (by decide) ?_
    refine g_istore_n (lv' := [(0, .ref (ad E o)), (1, .int v1), (2, .int 0)]) X dX0_payWhoCan_14 rfl (Nat.le_of_ble_eq_true rfl) rfl rfl ?_
    exact h
theorem w_X0_payWhoCan (E : Ek) (l : Launch) {o : Nat} (ho : Aff o) {M : Mem} {Post : Int32 → Mem → Prop} (h : wp_X0_payWhoCan Post M o) : ctI E l yX0_payWhoCan cX0_payWhoCan 3 (some .int) 5 [.ref (ad E o)] M Post := by
  refine ct_of (by decide) (Nat.le_of_ble_eq_true rfl) (fun x X hQ => ?_)
  have h := h (fun M v1 => G E x M 2 [(0, .ref (ad E o)), (1, .int v1)] []) (fun M v1 v2 => G E x M 15 [(0, .ref (ad E o)), (1, .int v1), (2, .int v2)] []) (fun M v1 v2 => G E x M 61 [(0, .ref (ad E o)), (1, .int v1), (2, .int v2)] []) (fun M v1 h => k_X0_payWhoCan_b2 X hQ ho h) (fun M v1 v2 h => k_X0_payWhoCan_b15 X hQ ho h) (fun M v1 v2 h => k_X0_payWhoCan_b61 X hQ ho h)
  change G E x M 0 [(0, .ref (ad E o))] []
  refine g_iconst (v := 0) X dX0_payWhoCan_0 (by decide) ?_
  refine g_istore_n (lv' := [(0, .ref (ad E o)), (1, .int 0)]) X dX0_payWhoCan_1 rfl (Nat.le_of_ble_eq_true rfl) rfl rfl ?_
  exact h
theorem cl_X11_222 {E : Ek} {x : MC} {cc : ByteArray} {nL hm pc : Nat} {M : Mem} {lv : List (Nat × Value)} {st : List Value} (X : Cx E x cc nL RX11 hm) {o : Nat} (ho : Aff o) {Post : Int32 → Mem → Prop} (hr : 5 < hm) (hW : (st.map fun v => v.category).sum ≤ 8) (hd : decode cc pc = .ok (.invokevirtual 222, 3)) (h : wp_X0_payWhoCan Post M o) (kk : ∀ r M1, Post r M1 → G E x M1 (pc + 3) lv (.int r :: st)) : G E x M pc lv (.ref (ad E o) :: st) := k_I (fun hP hS hL => run_VN X (w_X0_payWhoCan E (xl x) ho h) cw_X0_payWhoCan m407 m408 m409 (af_oc ho) hr rfl hd hW hP hS hL) kk
theorem cw_X11_sound : CW yX11_sound cX11_sound 1 (some .int) 0 := ⟨m410, m10, Nat.le_of_ble_eq_true rfl, by decide +kernel⟩
def wp_X11_sound (Post : Int32 → Mem → Prop) (M : Mem) : Prop :=
 (¬ (rd M 3 2) = 0 →
  wp_X0_takeOver (fun M2 =>
   wp_X0_payWhoCan (fun r3 M4 =>
    Post r3 M4) M2 75) M 75 59) ∧
 ((rd M 3 2) = 0 →
  Post (-103) M)
theorem w_X11_sound (E : Ek) (l : Launch) {M : Mem} {Post : Int32 → Mem → Prop} (h : wp_X11_sound Post M ) : ctI E l yX11_sound cX11_sound 1 (some .int) 6 [.ref (ad E 0)] M Post := by
  refine ct_of (by decide) (Nat.le_of_ble_eq_true rfl) (fun x X hQ => ?_)
  change G E x M 0 [(0, .ref (ad E 0))] []
  refine g_aload_n X dX11_sound_0 rfl 0 rfl ?_
  refine fg_X11_19 X dX11_sound_1 ?_
  refine fg_X11_90 X dX11_sound_4 ?_
  refine g_ifne (tgt := 13) X dX11_sound_7 (by decide) h (fun h => ?_) (fun h => ?_)
  · refine g_aload_n X dX11_sound_13 rfl 0 rfl ?_
    refine fg_X11_35 X dX11_sound_14 ?_
    refine g_aload_n X dX11_sound_17 rfl 0 rfl ?_
    refine fg_X11_28 X dX11_sound_18 ?_
    refine cl_X11_219 X aff_75 aff_59 (by decide) (Nat.le_of_ble_eq_true rfl) dX11_sound_21 h (fun M2 h => ?_)
    refine g_aload_n X dX11_sound_24 rfl 0 rfl ?_
    refine fg_X11_35 X dX11_sound_25 ?_
    refine cl_X11_222 X aff_75 (by decide) (Nat.le_of_ble_eq_true rfl) dX11_sound_28 h (fun r3 M4 h => ?_)
    exact g_iret X hQ dX11_sound_31 h
  · refine g_bipush (v := (-103)) X dX11_sound_10 (by decide) ?_
    exact g_iret X hQ dX11_sound_12 h
theorem cl_X11_285 {E : Ek} {x : MC} {cc : ByteArray} {nL hm pc : Nat} {M : Mem} {lv : List (Nat × Value)} {st : List Value} (X : Cx E x cc nL RX11 hm) {Post : Int32 → Mem → Prop} (hr : 6 < hm) (hW : (st.map fun v => v.category).sum ≤ 8) (hd : decode cc pc = .ok (.invokevirtual 285, 3)) (h : wp_X11_sound Post M ) (kk : ∀ r M1, Post r M1 → G E x M1 (pc + 3) lv (.int r :: st)) : G E x M pc lv (.ref (ad E 0) :: st) := k_I (fun hP hS hL => run_V X (w_X11_sound E (xl x)  h) cw_X11_sound m484 m485 m486 (⟨by decide, fun E f h => ⟨_, _, _, rfl, rfl, rfl⟩⟩ : OC 0 RX11) hr rfl hd hW hP hS hL) kk
theorem cw_X10_spreadFrom : CW yX10_spreadFrom cX10_spreadFrom 6 none 3 := ⟨m413, m290, Nat.le_of_ble_eq_true rfl, by decide +kernel⟩
def wp_X10_spreadFrom_b74 (Post : Mem → Prop) (o1 : Nat) (v2 : Int32) (v3 : Int32) (P6 : Mem → Int32 → Int32 → Prop) (P74 : Mem → Int32 → Int32 → Prop) (M : Mem) (v4 : Int32) (v5 : Int32) : Prop :=
 ((rd M 3 1) ≤ v5 →
  Post M) ∧
 (¬ (rd M 3 1) ≤ v5 →
  wp_X4_doorEndsAt (fun r10 M11 =>
   (r10 = 0 →
    ∀ x5_12 : Int32, x5_12 = v5 + 1 →
    P74 M11 v4 x5_12) ∧
   (¬ r10 = 0 →
    wp_X0_mayPass (fun r13 M14 =>
     (r13 = 0 →
      ∀ x5_15 : Int32, x5_15 = v5 + 1 →
      P74 M14 v4 x5_15) ∧
     (¬ r13 = 0 →
      wp_X4_roomBeyond (fun r16 M17 =>
       vp_in r16 6 ∧
       vp_in v3 6 ∧
       ¬ v4 = 0 ∧
       vp_in r16 6 ∧
       ∀ M18 : Mem, M18 = wr M17 18 r16.toNatClampNeg ((rd M17 18 r16.toNatClampNeg) + ((rd M17 17 v3.toNatClampNeg) / v4)) →
       ∀ x5_19 : Int32, x5_19 = v5 + 1 →
       P74 M18 v4 x5_19) M14 v5 v3)) M11 o1 v2 v5)) M v5 v3)
def wp_X10_spreadFrom_b6 (Post : Mem → Prop) (o1 : Nat) (v2 : Int32) (v3 : Int32) (P6 : Mem → Int32 → Int32 → Prop) (P74 : Mem → Int32 → Int32 → Prop) (M : Mem) (v4 : Int32) (v5 : Int32) : Prop :=
 ((rd M 3 1) ≤ v5 →
  (¬ v4 = 0 →
   P74 M v4 0) ∧
  (v4 = 0 →
   vp_in v3 6 ∧
   vp_in v3 6 ∧
   vp_in v3 6 ∧
   ∀ M1 : Mem, M1 = wr M 18 v3.toNatClampNeg ((rd M 18 v3.toNatClampNeg) + (rd M 17 v3.toNatClampNeg)) →
   Post M1)) ∧
 (¬ (rd M 3 1) ≤ v5 →
  wp_X4_doorEndsAt (fun r2 M3 =>
   (r2 = 0 →
    ∀ x5_4 : Int32, x5_4 = v5 + 1 →
    P6 M3 v4 x5_4) ∧
   (¬ r2 = 0 →
    wp_X0_mayPass (fun r5 M6 =>
     (r5 = 0 →
      ∀ x5_7 : Int32, x5_7 = v5 + 1 →
      P6 M6 v4 x5_7) ∧
     (¬ r5 = 0 →
      ∀ x4_8 : Int32, x4_8 = v4 + 1 →
      ∀ x5_9 : Int32, x5_9 = v5 + 1 →
      P6 M6 x4_8 x5_9)) M3 o1 v2 v5)) M v5 v3)
def wp_X10_spreadFrom (Post : Mem → Prop) (M : Mem) (o1 : Nat) (v2 : Int32) (v3 : Int32) : Prop :=
 ∀ (P6 : Mem → Int32 → Int32 → Prop) (P74 : Mem → Int32 → Int32 → Prop) ,
  (∀ (M : Mem) (v4 : Int32) (v5 : Int32), wp_X10_spreadFrom_b6 Post o1 v2 v3 P6 P74 M v4 v5 → P6 M v4 v5) →
  (∀ (M : Mem) (v4 : Int32) (v5 : Int32), wp_X10_spreadFrom_b74 Post o1 v2 v3 P6 P74 M v4 v5 → P74 M v4 v5) →
 P6 M 0 0
theorem k_X10_spreadFrom_b74 {E : Ek} {x : MC} (X : Cx E x cX10_spreadFrom 6 RX10 3) {Post : Mem → Prop} (hQ : QV E x Post none) {o1 : Nat} {v2 : Int32} {v3 : Int32} (ho1 : Aff o1) {M : Mem} {v4 : Int32} {v5 : Int32} (h : wp_X10_spreadFrom_b74 Post o1 v2 v3 (fun M v4 v5 => G E x M 6 [(0, .ref (ad E 15)), (1, .ref (ad E o1)), (2, .int v2), (3, .int v3), (4, .int v4), (5, .int v5)] []) (fun M v4 v5 => G E x M 74 [(0, .ref (ad E 15)), (1, .ref (ad E o1)), (2, .int v2), (3, .int v3), (4, .int v4), (5, .int v5)] []) M v4 v5) : G E x M 74 [(0, .ref (ad E 15)), (1, .ref (ad E o1)), (2, .int v2), (3, .int v3), (4, .int v4), (5, .int v5)] [] := by
  refine g_iload X dX10_spreadFrom_74 5 rfl ?_
  refine g_aload_n X dX10_spreadFrom_76 rfl 0 rfl ?_
  refine fg_X10_21 X dX10_spreadFrom_77 ?_
  refine fg_X10_48 X dX10_spreadFrom_80 ?_
  refine g_icmpge (tgt := 142) X dX10_spreadFrom_83 (by decide) h (fun h => ?_) (fun h => ?_)
  · exact g_vret X hQ dX10_spreadFrom_142 h
  · refine g_aload_n X dX10_spreadFrom_86 rfl 0 rfl ?_
    refine fg_X10_21 X dX10_spreadFrom_87 ?_
    refine g_iload X dX10_spreadFrom_90 5 rfl ?_
    refine g_iload_n X dX10_spreadFrom_92 rfl 3 rfl ?_
    refine cl_X10_65 X (by decide) (Nat.le_of_ble_eq_true rfl) dX10_spreadFrom_93 h (fun r10 M11 h => ?_)
    refine g_ifeq (tgt := 136) X dX10_spreadFrom_96 (by decide) h (fun h => ?_) (fun h => ?_)
    · refine g_iinc (w := 1) X dX10_spreadFrom_136 5 rfl (by decide) (Nat.le_of_ble_eq_true rfl) rfl (fun x5_12 => [(0, .ref (ad E 15)), (1, .ref (ad E o1)), (2, .int v2), (3, .int v3), (4, .int v4), (5, .int x5_12)]) (fun _ => rfl) h (fun x5_12 h => ?_)
      refine g_goto (tgt := 74) X dX10_spreadFrom_139 (by decide) ?_
      exact h
    · refine g_aload_n X dX10_spreadFrom_99 rfl 1 rfl ?_
      refine g_iload_n X dX10_spreadFrom_100 rfl 2 rfl ?_
      refine g_iload X dX10_spreadFrom_101 5 rfl ?_
      refine cl_X10_51 X ho1 (by decide) (Nat.le_of_ble_eq_true rfl) dX10_spreadFrom_103 h (fun r13 M14 h => ?_)
      refine g_ifeq (tgt := 136) X dX10_spreadFrom_106 (by decide) h (fun h => ?_) (fun h => ?_)
      · refine g_iinc (w := 1) X dX10_spreadFrom_136 5 rfl (by decide) (Nat.le_of_ble_eq_true rfl) rfl (fun x5_15 => [(0, .ref (ad E 15)), (1, .ref (ad E o1)), (2, .int v2), (3, .int v3), (4, .int v4), (5, .int x5_15)]) (fun _ => rfl) h (fun x5_15 h => ?_)
        refine g_goto (tgt := 74) X dX10_spreadFrom_139 (by decide) ?_
        exact h
      · refine g_aload_n X dX10_spreadFrom_109 rfl 0 rfl ?_
        refine fg_X10_18 X dX10_spreadFrom_110 ?_
        refine g_aload_n X dX10_spreadFrom_113 rfl 0 rfl ?_
        refine fg_X10_21 X dX10_spreadFrom_114 ?_
        refine g_iload X dX10_spreadFrom_117 5 rfl ?_
        refine g_iload_n X dX10_spreadFrom_119 rfl 3 rfl ?_
        refine cl_X10_38 X (by decide) (Nat.le_of_ble_eq_true rfl) dX10_spreadFrom_120 h (fun r16 M17 h => ?_)
        refine g_dup2 X dX10_spreadFrom_123 rfl rfl ?_
        refine g_iald X ia_18 dX10_spreadFrom_124 h (fun h => ?_)
        refine g_aload_n X dX10_spreadFrom_125 rfl 0 rfl ?_
        refine fg_X10_15 X dX10_spreadFrom_126 ?_
        refine g_iload_n X dX10_spreadFrom_129 rfl 3 rfl ?_
        refine g_iald X ia_17 dX10_spreadFrom_130 h (fun h => ?_)
        refine g_iload X dX10_spreadFrom_131 4 rfl ?_
        refine g_idiv X dX10_spreadFrom_133 h (fun h => ?_)
        refine g_iadd X dX10_spreadFrom_134 ?_
        refine g_iast X ia_18 dX10_spreadFrom_135 h (fun M18 h => ?_)
        refine g_iinc (w := 1) X dX10_spreadFrom_136 5 rfl (by decide) (Nat.le_of_ble_eq_true rfl) rfl (fun x5_19 => [(0, .ref (ad E 15)), (1, .ref (ad E o1)), (2, .int v2), (3, .int v3), (4, .int v4), (5, .int x5_19)]) (fun _ => rfl) h (fun x5_19 h => ?_)
        refine g_goto (tgt := 74) X dX10_spreadFrom_139 (by decide) ?_
        exact h
theorem k_X10_spreadFrom_b6 {E : Ek} {x : MC} (X : Cx E x cX10_spreadFrom 6 RX10 3) {Post : Mem → Prop} (hQ : QV E x Post none) {o1 : Nat} {v2 : Int32} {v3 : Int32} (ho1 : Aff o1) {M : Mem} {v4 : Int32} {v5 : Int32} (h : wp_X10_spreadFrom_b6 Post o1 v2 v3 (fun M v4 v5 => G E x M 6 [(0, .ref (ad E 15)), (1, .ref (ad E o1)), (2, .int v2), (3, .int v3), (4, .int v4), (5, .int v5)] []) (fun M v4 v5 => G E x M 74 [(0, .ref (ad E 15)), (1, .ref (ad E o1)), (2, .int v2), (3, .int v3), (4, .int v4), (5, .int v5)] []) M v4 v5) : G E x M 6 [(0, .ref (ad E 15)), (1, .ref (ad E o1)), (2, .int v2), (3, .int v3), (4, .int v4), (5, .int v5)] [] := by
  refine g_iload X dX10_spreadFrom_6 5 rfl ?_
  refine g_aload_n X dX10_spreadFrom_8 rfl 0 rfl ?_
  refine fg_X10_21 X dX10_spreadFrom_9 ?_
  refine fg_X10_48 X dX10_spreadFrom_12 ?_
  refine g_icmpge (tgt := 50) X dX10_spreadFrom_15 (by decide) h (fun h => ?_) (fun h => ?_)
  · refine g_iload X dX10_spreadFrom_50 4 rfl ?_
    refine g_ifne (tgt := 71) X dX10_spreadFrom_52 (by decide) h (fun h => ?_) (fun h => ?_)
    · refine g_iconst (v := 0) X dX10_spreadFrom_71 (by decide) ?_
      refine g_istore (lv' := [(0, .ref (ad E 15)), (1, .ref (ad E o1)), (2, .int v2), (3, .int v3), (4, .int v4), (5, .int 0)]) X dX10_spreadFrom_72 (Nat.le_of_ble_eq_true rfl) rfl rfl ?_
      exact h
    · refine g_aload_n X dX10_spreadFrom_55 rfl 0 rfl ?_
      refine fg_X10_18 X dX10_spreadFrom_56 ?_
      refine g_iload_n X dX10_spreadFrom_59 rfl 3 rfl ?_
      refine g_dup2 X dX10_spreadFrom_60 rfl rfl ?_
      refine g_iald X ia_18 dX10_spreadFrom_61 h (fun h => ?_)
      refine g_aload_n X dX10_spreadFrom_62 rfl 0 rfl ?_
      refine fg_X10_15 X dX10_spreadFrom_63 ?_
      refine g_iload_n X dX10_spreadFrom_66 rfl 3 rfl ?_
      refine g_iald X ia_17 dX10_spreadFrom_67 h (fun h => ?_)
      refine g_iadd X dX10_spreadFrom_68 ?_
      refine g_iast X ia_18 dX10_spreadFrom_69 h (fun M1 h => ?_)
      exact g_vret X hQ dX10_spreadFrom_70 h
  · refine g_aload_n X dX10_spreadFrom_18 rfl 0 rfl ?_
    refine fg_X10_21 X dX10_spreadFrom_19 ?_
    refine g_iload X dX10_spreadFrom_22 5 rfl ?_
    refine g_iload_n X dX10_spreadFrom_24 rfl 3 rfl ?_
    refine cl_X10_65 X (by decide) (Nat.le_of_ble_eq_true rfl) dX10_spreadFrom_25 h (fun r2 M3 h => ?_)
    refine g_ifeq (tgt := 44) X dX10_spreadFrom_28 (by decide) h (fun h => ?_) (fun h => ?_)
    · refine g_iinc (w := 1) X dX10_spreadFrom_44 5 rfl (by decide) (Nat.le_of_ble_eq_true rfl) rfl (fun x5_4 => [(0, .ref (ad E 15)), (1, .ref (ad E o1)), (2, .int v2), (3, .int v3), (4, .int v4), (5, .int x5_4)]) (fun _ => rfl) h (fun x5_4 h => ?_)
      refine g_goto (tgt := 6) X dX10_spreadFrom_47 (by decide) ?_
      exact h
    · refine g_aload_n X dX10_spreadFrom_31 rfl 1 rfl ?_
      refine g_iload_n X dX10_spreadFrom_32 rfl 2 rfl ?_
      refine g_iload X dX10_spreadFrom_33 5 rfl ?_
      refine cl_X10_51 X ho1 (by decide) (Nat.le_of_ble_eq_true rfl) dX10_spreadFrom_35 h (fun r5 M6 h => ?_)
      refine g_ifeq (tgt := 44) X dX10_spreadFrom_38 (by decide) h (fun h => ?_) (fun h => ?_)
      · refine g_iinc (w := 1) X dX10_spreadFrom_44 5 rfl (by decide) (Nat.le_of_ble_eq_true rfl) rfl (fun x5_7 => [(0, .ref (ad E 15)), (1, .ref (ad E o1)), (2, .int v2), (3, .int v3), (4, .int v4), (5, .int x5_7)]) (fun _ => rfl) h (fun x5_7 h => ?_)
        refine g_goto (tgt := 6) X dX10_spreadFrom_47 (by decide) ?_
        exact h
      · refine g_iinc (w := 1) X dX10_spreadFrom_41 4 rfl (by decide) (Nat.le_of_ble_eq_true rfl) rfl (fun x4_8 => [(0, .ref (ad E 15)), (1, .ref (ad E o1)), (2, .int v2), (3, .int v3), (4, .int x4_8), (5, .int v5)]) (fun _ => rfl) h (fun x4_8 h => ?_)
        refine g_iinc (w := 1) X dX10_spreadFrom_44 5 rfl (by decide) (Nat.le_of_ble_eq_true rfl) rfl (fun x5_9 => [(0, .ref (ad E 15)), (1, .ref (ad E o1)), (2, .int v2), (3, .int v3), (4, .int x4_8), (5, .int x5_9)]) (fun _ => rfl) h (fun x5_9 h => ?_)
        refine g_goto (tgt := 6) X dX10_spreadFrom_47 (by decide) ?_
        exact h
theorem w_X10_spreadFrom (E : Ek) (l : Launch) {o1 : Nat} {v2 : Int32} {v3 : Int32} (ho1 : Aff o1) {M : Mem} {Post : Mem → Prop} (h : wp_X10_spreadFrom Post M o1 v2 v3) : ctV E l yX10_spreadFrom cX10_spreadFrom 6 none 3 [.ref (ad E 15), .ref (ad E o1), .int v2, .int v3] M Post := by
  refine ct_of (by decide) (Nat.le_of_ble_eq_true rfl) (fun x X hQ => ?_)
  have h := h (fun M v4 v5 => G E x M 6 [(0, .ref (ad E 15)), (1, .ref (ad E o1)), (2, .int v2), (3, .int v3), (4, .int v4), (5, .int v5)] []) (fun M v4 v5 => G E x M 74 [(0, .ref (ad E 15)), (1, .ref (ad E o1)), (2, .int v2), (3, .int v3), (4, .int v4), (5, .int v5)] []) (fun M v4 v5 h => k_X10_spreadFrom_b6 X hQ ho1 h) (fun M v4 v5 h => k_X10_spreadFrom_b74 X hQ ho1 h)
  change G E x M 0 [(0, .ref (ad E 15)), (1, .ref (ad E o1)), (2, .int v2), (3, .int v3)] []
  refine g_iconst (v := 0) X dX10_spreadFrom_0 (by decide) ?_
  refine g_istore (lv' := [(0, .ref (ad E 15)), (1, .ref (ad E o1)), (2, .int v2), (3, .int v3), (4, .int 0)]) X dX10_spreadFrom_1 (Nat.le_of_ble_eq_true rfl) rfl rfl ?_
  refine g_iconst (v := 0) X dX10_spreadFrom_3 (by decide) ?_
  refine g_istore (lv' := [(0, .ref (ad E 15)), (1, .ref (ad E o1)), (2, .int v2), (3, .int v3), (4, .int 0), (5, .int 0)]) X dX10_spreadFrom_4 (Nat.le_of_ble_eq_true rfl) rfl rfl ?_
  exact h
theorem cl_X10_73 {E : Ek} {x : MC} {cc : ByteArray} {nL hm pc : Nat} {M : Mem} {lv : List (Nat × Value)} {st : List Value} (X : Cx E x cc nL RX10 hm) {o1 : Nat} {v2 : Int32} {v3 : Int32} (ho1 : Aff o1) {Post : Mem → Prop} (hr : 3 < hm) (hW : (st.map fun v => v.category).sum ≤ 8) (hd : decode cc pc = .ok (.invokevirtual 73, 3)) (h : wp_X10_spreadFrom Post M o1 v2 v3) (kk : ∀ M1, Post M1 → G E x M1 (pc + 3) lv st) : G E x M pc lv (.int v3 :: .int v2 :: .ref (ad E o1) :: .ref (ad E 15) :: st) := k_V (fun hP hS hL => run_V X (w_X10_spreadFrom E (xl x) ho1 h) cw_X10_spreadFrom m414 m415 m416 (⟨by decide, fun E f h => ⟨_, _, _, rfl, rfl, rfl⟩⟩ : OC 15 RX10) hr rfl hd hW hP hS hL) kk
