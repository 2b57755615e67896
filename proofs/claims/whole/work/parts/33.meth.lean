theorem cw_X12_metOf : CW yX12_metOf cX12_metOf 10 (some .int) 4 := ⟨m732, m499, Nat.le_of_ble_eq_true rfl, by decide +kernel⟩
def wp_X12_metOf_b187 (Post : Int32 → Mem → Prop) (v1 : Int32) (v2 : Int32) (v3 : Int32) (v4 : Int32) (P6 : Mem → Int32 → Int32 → Prop) (P56 : Mem → Int32 → Int32 → Prop) (P72 : Mem → Int32 → Int32 → Int32 → Prop) (P96 : Mem → Int32 → Int32 → Int32 → Prop) (P154 : Mem → Int32 → Int32 → Int32 → Prop) (P187 : Mem → Int32 → Int32 → Int32 → Int32 → Prop) (M : Mem) (v5 : Int32) (v6 : Int32) (v7 : Int32) (v8 : Int32) : Prop :=
 (v8 ≤ 0 →
  (¬ v4 = 0 →
   ¬ v7 = 0 ∧
   Post (v5 / v7) M) ∧
  (v4 = 0 →
   ¬ v7 = 0 ∧
   Post (v6 / v7) M)) ∧
 (¬ v8 ≤ 0 →
  ¬ v8 = 0 ∧
  ∀ x9_19 : Int32, x9_19 = v7 - v7 / v8 * v8 →
  P187 M v5 v6 v8 x9_19)
def wp_X12_metOf_b154 (Post : Int32 → Mem → Prop) (v1 : Int32) (v2 : Int32) (v3 : Int32) (v4 : Int32) (P6 : Mem → Int32 → Int32 → Prop) (P56 : Mem → Int32 → Int32 → Prop) (P72 : Mem → Int32 → Int32 → Int32 → Prop) (P96 : Mem → Int32 → Int32 → Int32 → Prop) (P154 : Mem → Int32 → Int32 → Int32 → Prop) (P187 : Mem → Int32 → Int32 → Int32 → Int32 → Prop) (M : Mem) (v5 : Int32) (v6 : Int32) (v7 : Int32) : Prop :=
 (6 ≤ v7 →
  P187 M v5 v6 v5 v6) ∧
 (¬ 6 ≤ v7 →
  vp_in v7 6 ∧
  ∀ x6_17 : Int32, x6_17 = v6 - (rd M 50 v7.toNatClampNeg) →
  ∀ x7_18 : Int32, x7_18 = v7 + 1 →
  P154 M v5 x6_17 x7_18)
def wp_X12_metOf_b96 (Post : Int32 → Mem → Prop) (v1 : Int32) (v2 : Int32) (v3 : Int32) (v4 : Int32) (P6 : Mem → Int32 → Int32 → Prop) (P56 : Mem → Int32 → Int32 → Prop) (P72 : Mem → Int32 → Int32 → Int32 → Prop) (P96 : Mem → Int32 → Int32 → Int32 → Prop) (P154 : Mem → Int32 → Int32 → Int32 → Prop) (P187 : Mem → Int32 → Int32 → Int32 → Int32 → Prop) (M : Mem) (v5 : Int32) (v6 : Int32) (v7 : Int32) : Prop :=
 ((rd M 29 4) ≤ v7 →
  wp_X12_copy (fun M11 =>
   vp_in v2 4 ∧
   vp_in (rd M11 36 v2.toNatClampNeg) 6 ∧
   ∀ M12 : Mem, M12 = wr M11 50 (rd M11 36 v2.toNatClampNeg).toNatClampNeg 0 →
   ∀ x6_13 : Int32, x6_13 = v6 + 1 →
   P56 M12 v5 x6_13) M 51 6 50 6) ∧
 (¬ (rd M 29 4) ≤ v7 →
  wp_X12_goAll (fun M15 =>
   ∀ x7_16 : Int32, x7_16 = v7 + 1 →
   P96 M15 v5 v6 x7_16) M v1 v7)
def wp_X12_metOf_b72 (Post : Int32 → Mem → Prop) (v1 : Int32) (v2 : Int32) (v3 : Int32) (v4 : Int32) (P6 : Mem → Int32 → Int32 → Prop) (P56 : Mem → Int32 → Int32 → Prop) (P72 : Mem → Int32 → Int32 → Int32 → Prop) (P96 : Mem → Int32 → Int32 → Int32 → Prop) (P154 : Mem → Int32 → Int32 → Int32 → Prop) (P187 : Mem → Int32 → Int32 → Int32 → Int32 → Prop) (M : Mem) (v5 : Int32) (v6 : Int32) (v7 : Int32) : Prop :=
 (6 ≤ v7 →
  P96 M v5 v6 0) ∧
 (¬ 6 ≤ v7 →
  vp_in v7 6 ∧
  ∀ M8 : Mem, M8 = wr M 51 v7.toNatClampNeg 0 →
  ∀ x7_9 : Int32, x7_9 = v7 + 1 →
  P72 M8 v5 v6 x7_9)
def wp_X12_metOf_b56 (Post : Int32 → Mem → Prop) (v1 : Int32) (v2 : Int32) (v3 : Int32) (v4 : Int32) (P6 : Mem → Int32 → Int32 → Prop) (P56 : Mem → Int32 → Int32 → Prop) (P72 : Mem → Int32 → Int32 → Int32 → Prop) (P96 : Mem → Int32 → Int32 → Int32 → Prop) (P154 : Mem → Int32 → Int32 → Int32 → Prop) (P187 : Mem → Int32 → Int32 → Int32 → Int32 → Prop) (M : Mem) (v5 : Int32) (v6 : Int32) : Prop :=
 (v3 ≤ v6 →
  P154 M v5 v5 0) ∧
 (¬ v3 ≤ v6 →
  ∀ x5_7 : Int32, x5_7 = v5 * 60 →
  P72 M x5_7 v6 0)
def wp_X12_metOf_b6 (Post : Int32 → Mem → Prop) (v1 : Int32) (v2 : Int32) (v3 : Int32) (v4 : Int32) (P6 : Mem → Int32 → Int32 → Prop) (P56 : Mem → Int32 → Int32 → Prop) (P72 : Mem → Int32 → Int32 → Int32 → Prop) (P96 : Mem → Int32 → Int32 → Int32 → Prop) (P154 : Mem → Int32 → Int32 → Int32 → Prop) (P187 : Mem → Int32 → Int32 → Int32 → Int32 → Prop) (M : Mem) (v5 : Int32) (v6 : Int32) : Prop :=
 (6 ≤ v6 →
  P56 M v5 0) ∧
 (¬ 6 ≤ v6 →
  vp_in v1 4 ∧
  (¬ v6 = (rd M 36 v1.toNatClampNeg) →
   vp_in v6 6 ∧
   ∀ M1 : Mem, M1 = wr M 50 v6.toNatClampNeg 0 →
   ∀ x6_2 : Int32, x6_2 = v6 + 1 →
   P6 M1 v5 x6_2) ∧
  (v6 = (rd M 36 v1.toNatClampNeg) →
   vp_in v2 4 ∧
   (v6 = (rd M 36 v2.toNatClampNeg) →
    vp_in v6 6 ∧
    ∀ M3 : Mem, M3 = wr M 50 v6.toNatClampNeg 0 →
    ∀ x6_4 : Int32, x6_4 = v6 + 1 →
    P6 M3 v5 x6_4) ∧
   (¬ v6 = (rd M 36 v2.toNatClampNeg) →
    vp_in v6 6 ∧
    ∀ M5 : Mem, M5 = wr M 50 v6.toNatClampNeg 1 →
    ∀ x6_6 : Int32, x6_6 = v6 + 1 →
    P6 M5 v5 x6_6)))
def wp_X12_metOf (Post : Int32 → Mem → Prop) (M : Mem) (v1 : Int32) (v2 : Int32) (v3 : Int32) (v4 : Int32) : Prop :=
 ∀ (P6 : Mem → Int32 → Int32 → Prop) (P56 : Mem → Int32 → Int32 → Prop) (P72 : Mem → Int32 → Int32 → Int32 → Prop) (P96 : Mem → Int32 → Int32 → Int32 → Prop) (P154 : Mem → Int32 → Int32 → Int32 → Prop) (P187 : Mem → Int32 → Int32 → Int32 → Int32 → Prop) ,
  (∀ (M : Mem) (v5 : Int32) (v6 : Int32), wp_X12_metOf_b6 Post v1 v2 v3 v4 P6 P56 P72 P96 P154 P187 M v5 v6 → P6 M v5 v6) →
  (∀ (M : Mem) (v5 : Int32) (v6 : Int32), wp_X12_metOf_b56 Post v1 v2 v3 v4 P6 P56 P72 P96 P154 P187 M v5 v6 → P56 M v5 v6) →
  (∀ (M : Mem) (v5 : Int32) (v6 : Int32) (v7 : Int32), wp_X12_metOf_b72 Post v1 v2 v3 v4 P6 P56 P72 P96 P154 P187 M v5 v6 v7 → P72 M v5 v6 v7) →
  (∀ (M : Mem) (v5 : Int32) (v6 : Int32) (v7 : Int32), wp_X12_metOf_b96 Post v1 v2 v3 v4 P6 P56 P72 P96 P154 P187 M v5 v6 v7 → P96 M v5 v6 v7) →
  (∀ (M : Mem) (v5 : Int32) (v6 : Int32) (v7 : Int32), wp_X12_metOf_b154 Post v1 v2 v3 v4 P6 P56 P72 P96 P154 P187 M v5 v6 v7 → P154 M v5 v6 v7) →
  (∀ (M : Mem) (v5 : Int32) (v6 : Int32) (v7 : Int32) (v8 : Int32), wp_X12_metOf_b187 Post v1 v2 v3 v4 P6 P56 P72 P96 P154 P187 M v5 v6 v7 v8 → P187 M v5 v6 v7 v8) →
 P6 M 1 0
theorem k_X12_metOf_b187 {E : Ek} {x : MC} (X : Cx E x cX12_metOf 10 RX12 4) {Post : Int32 → Mem → Prop} (hQ : QI E x Post (some .int)) {v1 : Int32} {v2 : Int32} {v3 : Int32} {v4 : Int32} {M : Mem} {v5 : Int32} {v6 : Int32} {v7 : Int32} {v8 : Int32} (h : wp_X12_metOf_b187 Post v1 v2 v3 v4 (fun M v5 v6 => G E x M 6 [(0, .ref (ad E 29)), (1, .int v1), (2, .int v2), (3, .int v3), (4, .int v4), (5, .int v5), (6, .int v6)] []) (fun M v5 v6 => G E x M 56 [(0, .ref (ad E 29)), (1, .int v1), (2, .int v2), (3, .int v3), (4, .int v4), (5, .int v5), (6, .int v6)] []) (fun M v5 v6 v7 => G E x M 72 [(0, .ref (ad E 29)), (1, .int v1), (2, .int v2), (3, .int v3), (4, .int v4), (5, .int v5), (6, .int v6), (7, .int v7)] []) (fun M v5 v6 v7 => G E x M 96 [(0, .ref (ad E 29)), (1, .int v1), (2, .int v2), (3, .int v3), (4, .int v4), (5, .int v5), (6, .int v6), (7, .int v7)] []) (fun M v5 v6 v7 => G E x M 154 [(0, .ref (ad E 29)), (4, .int v4), (5, .int v5), (6, .int v6), (7, .int v7)] []) (fun M v5 v6 v7 v8 => G E x M 187 [(4, .int v4), (5, .int v5), (6, .int v6), (7, .int v7), (8, .int v8)] []) M v5 v6 v7 v8) : G E x M 187 [(4, .int v4), (5, .int v5), (6, .int v6), (7, .int v7), (8, .int v8)] [] := by
  refine g_iload X dX12_metOf_187 4 rfl ?_
  refine g_ifle (tgt := 210) X dX12_metOf_189 (by decide) h (fun h => ?_) (fun h => ?_)
  · refine g_iload X dX12_metOf_210 0 rfl ?_
    refine g_ifne (tgt := 223) X dX12_metOf_212 (by decide) h (fun h => ?_) (fun h => ?_)
    · refine g_iload X dX12_metOf_223 1 rfl ?_
      refine g_iload X dX12_metOf_225 3 rfl ?_
      refine g_idiv X dX12_metOf_227 h (fun h => ?_)
      exact g_iret X hQ dX12_metOf_228 h
    · refine g_iload X dX12_metOf_215 2 rfl ?_
      refine g_iload X dX12_metOf_217 3 rfl ?_
      refine g_idiv X dX12_metOf_219 h (fun h => ?_)
      refine g_goto (tgt := 228) X dX12_metOf_220 (by decide) ?_
      exact g_iret X hQ dX12_metOf_228 h
  · refine g_iload X dX12_metOf_192 3 rfl ?_
    refine g_iload X dX12_metOf_194 4 rfl ?_
    refine g_irem X dX12_metOf_196 h (fun h => ?_)
    refine g_nm h (fun x9_19 h => ?_)
    refine g_istore (lv' := [(4, .int v4), (5, .int v5), (6, .int v6), (7, .int v7), (8, .int v8), (9, .int x9_19)]) X dX12_metOf_197 (Nat.le_of_ble_eq_true rfl) rfl rfl ?_
    refine g_iload X dX12_metOf_199 4 rfl ?_
    refine g_istore (lv' := [(4, .int v4), (5, .int v5), (6, .int v6), (7, .int v8), (8, .int v8), (9, .int x9_19)]) X dX12_metOf_201 (Nat.le_of_ble_eq_true rfl) rfl rfl ?_
    refine g_iload X dX12_metOf_203 5 rfl ?_
    refine g_istore (lv' := [(4, .int v4), (5, .int v5), (6, .int v6), (7, .int v8), (8, .int x9_19), (9, .int x9_19)]) X dX12_metOf_205 (Nat.le_of_ble_eq_true rfl) rfl rfl ?_
    refine g_goto (tgt := 187) X dX12_metOf_207 (by decide) ?_
    exact g_sub [0, 1, 2, 3, 4] rfl h
theorem k_X12_metOf_b154 {E : Ek} {x : MC} (X : Cx E x cX12_metOf 10 RX12 4) {Post : Int32 → Mem → Prop} (hQ : QI E x Post (some .int)) {v1 : Int32} {v2 : Int32} {v3 : Int32} {v4 : Int32} {M : Mem} {v5 : Int32} {v6 : Int32} {v7 : Int32} (h : wp_X12_metOf_b154 Post v1 v2 v3 v4 (fun M v5 v6 => G E x M 6 [(0, .ref (ad E 29)), (1, .int v1), (2, .int v2), (3, .int v3), (4, .int v4), (5, .int v5), (6, .int v6)] []) (fun M v5 v6 => G E x M 56 [(0, .ref (ad E 29)), (1, .int v1), (2, .int v2), (3, .int v3), (4, .int v4), (5, .int v5), (6, .int v6)] []) (fun M v5 v6 v7 => G E x M 72 [(0, .ref (ad E 29)), (1, .int v1), (2, .int v2), (3, .int v3), (4, .int v4), (5, .int v5), (6, .int v6), (7, .int v7)] []) (fun M v5 v6 v7 => G E x M 96 [(0, .ref (ad E 29)), (1, .int v1), (2, .int v2), (3, .int v3), (4, .int v4), (5, .int v5), (6, .int v6), (7, .int v7)] []) (fun M v5 v6 v7 => G E x M 154 [(0, .ref (ad E 29)), (4, .int v4), (5, .int v5), (6, .int v6), (7, .int v7)] []) (fun M v5 v6 v7 v8 => G E x M 187 [(4, .int v4), (5, .int v5), (6, .int v6), (7, .int v7), (8, .int v8)] []) M v5 v6 v7) : G E x M 154 [(0, .ref (ad E 29)), (4, .int v4), (5, .int v5), (6, .int v6), (7, .int v7)] [] := by
  refine g_iload X dX12_metOf_154 4 rfl ?_
  refine g_bipush (v := 6) X dX12_metOf_156 (by decide) ?_
  refine g_icmpge (tgt := 179) X dX12_metOf_158 (by decide) h (fun h => ?_) (fun h => ?_)
  · refine g_iload X dX12_metOf_179 2 rfl ?_
    refine g_istore (lv' := [(0, .ref (ad E 29)), (4, .int v4), (5, .int v5), (6, .int v6), (7, .int v5)]) X dX12_metOf_181 (Nat.le_of_ble_eq_true rfl) rfl rfl ?_
    refine g_iload X dX12_metOf_183 3 rfl ?_
    refine g_istore (lv' := [(0, .ref (ad E 29)), (4, .int v4), (5, .int v5), (6, .int v6), (7, .int v5), (8, .int v6)]) X dX12_metOf_185 (Nat.le_of_ble_eq_true rfl) rfl rfl ?_
    exact g_sub [1, 2, 3, 4, 5] rfl h
  · refine g_iload X dX12_metOf_161 3 rfl ?_
    refine g_aload_n X dX12_metOf_163 rfl 0 rfl ?_
    refine fg_X12_70 X dX12_metOf_164 ?_
    refine g_iload X dX12_metOf_167 4 rfl ?_
    refine g_iald X ia_50 dX12_metOf_169 h (fun h => ?_)
    refine g_isub X dX12_metOf_170 ?_
    refine g_nm h (fun x6_17 h => ?_)
    refine g_istore (lv' := [(0, .ref (ad E 29)), (4, .int v4), (5, .int v5), (6, .int x6_17), (7, .int v7)]) X dX12_metOf_171 (Nat.le_of_ble_eq_true rfl) rfl rfl ?_
    refine g_iinc (w := 1) X dX12_metOf_173 4 rfl (by decide) (Nat.le_of_ble_eq_true rfl) rfl (fun x7_18 => [(0, .ref (ad E 29)), (4, .int v4), (5, .int v5), (6, .int x6_17), (7, .int x7_18)]) (fun _ => rfl) h (fun x7_18 h => ?_)
    refine g_goto (tgt := 154) X dX12_metOf_176 (by decide) ?_
    exact h
theorem k_X12_metOf_b96 {E : Ek} {x : MC} (X : Cx E x cX12_metOf 10 RX12 4) {Post : Int32 → Mem → Prop} (hQ : QI E x Post (some .int)) {v1 : Int32} {v2 : Int32} {v3 : Int32} {v4 : Int32} {M : Mem} {v5 : Int32} {v6 : Int32} {v7 : Int32} (h : wp_X12_metOf_b96 Post v1 v2 v3 v4 (fun M v5 v6 => G E x M 6 [(0, .ref (ad E 29)), (1, .int v1), (2, .int v2), (3, .int v3), (4, .int v4), (5, .int v5), (6, .int v6)] []) (fun M v5 v6 => G E x M 56 [(0, .ref (ad E 29)), (1, .int v1), (2, .int v2), (3, .int v3), (4, .int v4), (5, .int v5), (6, .int v6)] []) (fun M v5 v6 v7 => G E x M 72 [(0, .ref (ad E 29)), (1, .int v1), (2, .int v2), (3, .int v3), (4, .int v4), (5, .int v5), (6, .int v6), (7, .int v7)] []) (fun M v5 v6 v7 => G E x M 96 [(0, .ref (ad E 29)), (1, .int v1), (2, .int v2), (3, .int v3), (4, .int v4), (5, .int v5), (6, .int v6), (7, .int v7)] []) (fun M v5 v6 v7 => G E x M 154 [(0, .ref (ad E 29)), (4, .int v4), (5, .int v5), (6, .int v6), (7, .int v7)] []) (fun M v5 v6 v7 v8 => G E x M 187 [(4, .int v4), (5, .int v5), (6, .int v6), (7, .int v7), (8, .int v8)] []) M v5 v6 v7) : G E x M 96 [(0, .ref (ad E 29)), (1, .int v1), (2, .int v2), (3, .int v3), (4, .int v4), (5, .int v5), (6, .int v6), (7, .int v7)] [] := by
  refine g_iload X dX12_metOf_96 7 rfl ?_
  refine g_aload_n X dX12_metOf_98 rfl 0 rfl ?_
  refine fg_X12_153 X dX12_metOf_99 ?_
  refine g_icmpge (tgt := 118) X dX12_metOf_102 (by decide) h (fun h => ?_) (fun h => ?_)
  · refine g_aload_n X dX12_metOf_118 rfl 0 rfl ?_
    refine fg_X12_73 X dX12_metOf_119 ?_
    refine g_aload_n X dX12_metOf_122 rfl 0 rfl ?_
    refine fg_X12_70 X dX12_metOf_123 ?_
    refine cl_X12_177 X ia_51 ia_50 (by decide) (Nat.le_of_ble_eq_true rfl) dX12_metOf_126 h (fun M11 h => ?_)
    refine g_aload_n X dX12_metOf_129 rfl 0 rfl ?_
    refine fg_X12_70 X dX12_metOf_130 ?_
    refine g_aload_n X dX12_metOf_133 rfl 0 rfl ?_
    refine fg_X12_28 X dX12_metOf_134 ?_
    refine g_iload_n X dX12_metOf_137 rfl 2 rfl ?_
    refine g_iald X ia_36 dX12_metOf_138 h (fun h => ?_)
    refine g_iconst (v := 0) X dX12_metOf_139 (by decide) ?_
    refine g_iast X ia_50 dX12_metOf_140 h (fun M12 h => ?_)
    refine g_iinc (w := 1) X dX12_metOf_141 6 rfl (by decide) (Nat.le_of_ble_eq_true rfl) rfl (fun x6_13 => [(0, .ref (ad E 29)), (1, .int v1), (2, .int v2), (3, .int v3), (4, .int v4), (5, .int v5), (6, .int x6_13), (7, .int v7)]) (fun _ => rfl) h (fun x6_13 h => ?_)
    refine g_goto (tgt := 56) X dX12_metOf_144 (by decide) ?_
    exact g_sub [0, 1, 2, 3, 4, 5, 6] rfl h
  · refine g_aload_n X dX12_metOf_105 rfl 0 rfl ?_
    refine g_iload_n X dX12_metOf_106 rfl 1 rfl ?_
    refine g_iload X dX12_metOf_107 7 rfl ?_
    refine cl_X12_293 X (by decide) (Nat.le_of_ble_eq_true rfl) dX12_metOf_109 h (fun M15 h => ?_)
    refine g_iinc (w := 1) X dX12_metOf_112 7 rfl (by decide) (Nat.le_of_ble_eq_true rfl) rfl (fun x7_16 => [(0, .ref (ad E 29)), (1, .int v1), (2, .int v2), (3, .int v3), (4, .int v4), (5, .int v5), (6, .int v6), (7, .int x7_16)]) (fun _ => rfl) h (fun x7_16 h => ?_)
    refine g_goto (tgt := 96) X dX12_metOf_115 (by decide) ?_
    exact h
theorem k_X12_metOf_b72 {E : Ek} {x : MC} (X : Cx E x cX12_metOf 10 RX12 4) {Post : Int32 → Mem → Prop} (hQ : QI E x Post (some .int)) {v1 : Int32} {v2 : Int32} {v3 : Int32} {v4 : Int32} {M : Mem} {v5 : Int32} {v6 : Int32} {v7 : Int32} (h : wp_X12_metOf_b72 Post v1 v2 v3 v4 (fun M v5 v6 => G E x M 6 [(0, .ref (ad E 29)), (1, .int v1), (2, .int v2), (3, .int v3), (4, .int v4), (5, .int v5), (6, .int v6)] []) (fun M v5 v6 => G E x M 56 [(0, .ref (ad E 29)), (1, .int v1), (2, .int v2), (3, .int v3), (4, .int v4), (5, .int v5), (6, .int v6)] []) (fun M v5 v6 v7 => G E x M 72 [(0, .ref (ad E 29)), (1, .int v1), (2, .int v2), (3, .int v3), (4, .int v4), (5, .int v5), (6, .int v6), (7, .int v7)] []) (fun M v5 v6 v7 => G E x M 96 [(0, .ref (ad E 29)), (1, .int v1), (2, .int v2), (3, .int v3), (4, .int v4), (5, .int v5), (6, .int v6), (7, .int v7)] []) (fun M v5 v6 v7 => G E x M 154 [(0, .ref (ad E 29)), (4, .int v4), (5, .int v5), (6, .int v6), (7, .int v7)] []) (fun M v5 v6 v7 v8 => G E x M 187 [(4, .int v4), (5, .int v5), (6, .int v6), (7, .int v7), (8, .int v8)] []) M v5 v6 v7) : G E x M 72 [(0, .ref (ad E 29)), (1, .int v1), (2, .int v2), (3, .int v3), (4, .int v4), (5, .int v5), (6, .int v6), (7, .int v7)] [] := by
  refine g_iload X dX12_metOf_72 7 rfl ?_
  refine g_bipush (v := 6) X dX12_metOf_74 (by decide) ?_
  refine g_icmpge (tgt := 93) X dX12_metOf_76 (by decide) h (fun h => ?_) (fun h => ?_)
  · refine g_iconst (v := 0) X dX12_metOf_93 (by decide) ?_
    refine g_istore (lv' := [(0, .ref (ad E 29)), (1, .int v1), (2, .int v2), (3, .int v3), (4, .int v4), (5, .int v5), (6, .int v6), (7, .int 0)]) X dX12_metOf_94 (Nat.le_of_ble_eq_true rfl) rfl rfl ?_
    exact h
  · refine g_aload_n X dX12_metOf_79 rfl 0 rfl ?_
    refine fg_X12_73 X dX12_metOf_80 ?_
    refine g_iload X dX12_metOf_83 7 rfl ?_
    refine g_iconst (v := 0) X dX12_metOf_85 (by decide) ?_
    refine g_iast X ia_51 dX12_metOf_86 h (fun M8 h => ?_)
    refine g_iinc (w := 1) X dX12_metOf_87 7 rfl (by decide) (Nat.le_of_ble_eq_true rfl) rfl (fun x7_9 => [(0, .ref (ad E 29)), (1, .int v1), (2, .int v2), (3, .int v3), (4, .int v4), (5, .int v5), (6, .int v6), (7, .int x7_9)]) (fun _ => rfl) h (fun x7_9 h => ?_)
    refine g_goto (tgt := 72) X dX12_metOf_90 (by decide) ?_
    exact h
theorem k_X12_metOf_b56 {E : Ek} {x : MC} (X : Cx E x cX12_metOf 10 RX12 4) {Post : Int32 → Mem → Prop} (hQ : QI E x Post (some .int)) {v1 : Int32} {v2 : Int32} {v3 : Int32} {v4 : Int32} {M : Mem} {v5 : Int32} {v6 : Int32} (h : wp_X12_metOf_b56 Post v1 v2 v3 v4 (fun M v5 v6 => G E x M 6 [(0, .ref (ad E 29)), (1, .int v1), (2, .int v2), (3, .int v3), (4, .int v4), (5, .int v5), (6, .int v6)] []) (fun M v5 v6 => G E x M 56 [(0, .ref (ad E 29)), (1, .int v1), (2, .int v2), (3, .int v3), (4, .int v4), (5, .int v5), (6, .int v6)] []) (fun M v5 v6 v7 => G E x M 72 [(0, .ref (ad E 29)), (1, .int v1), (2, .int v2), (3, .int v3), (4, .int v4), (5, .int v5), (6, .int v6), (7, .int v7)] []) (fun M v5 v6 v7 => G E x M 96 [(0, .ref (ad E 29)), (1, .int v1), (2, .int v2), (3, .int v3), (4, .int v4), (5, .int v5), (6, .int v6), (7, .int v7)] []) (fun M v5 v6 v7 => G E x M 154 [(0, .ref (ad E 29)), (4, .int v4), (5, .int v5), (6, .int v6), (7, .int v7)] []) (fun M v5 v6 v7 v8 => G E x M 187 [(4, .int v4), (5, .int v5), (6, .int v6), (7, .int v7), (8, .int v8)] []) M v5 v6) : G E x M 56 [(0, .ref (ad E 29)), (1, .int v1), (2, .int v2), (3, .int v3), (4, .int v4), (5, .int v5), (6, .int v6)] [] := by
  refine g_iload X dX12_metOf_56 6 rfl ?_
  refine g_iload_n X dX12_metOf_58 rfl 3 rfl ?_
  refine g_icmpge (tgt := 147) X dX12_metOf_59 (by decide) h (fun h => ?_) (fun h => ?_)
  · refine g_iload X dX12_metOf_147 5 rfl ?_
    refine g_istore (lv' := [(0, .ref (ad E 29)), (1, .int v1), (2, .int v2), (3, .int v3), (4, .int v4), (5, .int v5), (6, .int v5)]) X dX12_metOf_149 (Nat.le_of_ble_eq_true rfl) rfl rfl ?_
    refine g_iconst (v := 0) X dX12_metOf_151 (by decide) ?_
    refine g_istore (lv' := [(0, .ref (ad E 29)), (1, .int v1), (2, .int v2), (3, .int v3), (4, .int v4), (5, .int v5), (6, .int v5), (7, .int 0)]) X dX12_metOf_152 (Nat.le_of_ble_eq_true rfl) rfl rfl ?_
    exact g_sub [0, 4, 5, 6, 7] rfl h
  · refine g_iload X dX12_metOf_62 5 rfl ?_
    refine g_bipush (v := 60) X dX12_metOf_64 (by decide) ?_
    refine g_imul X dX12_metOf_66 ?_
    refine g_nm h (fun x5_7 h => ?_)
    refine g_istore (lv' := [(0, .ref (ad E 29)), (1, .int v1), (2, .int v2), (3, .int v3), (4, .int v4), (5, .int x5_7), (6, .int v6)]) X dX12_metOf_67 (Nat.le_of_ble_eq_true rfl) rfl rfl ?_
    refine g_iconst (v := 0) X dX12_metOf_69 (by decide) ?_
    refine g_istore (lv' := [(0, .ref (ad E 29)), (1, .int v1), (2, .int v2), (3, .int v3), (4, .int v4), (5, .int x5_7), (6, .int v6), (7, .int 0)]) X dX12_metOf_70 (Nat.le_of_ble_eq_true rfl) rfl rfl ?_
    exact h
theorem k_X12_metOf_b6 {E : Ek} {x : MC} (X : Cx E x cX12_metOf 10 RX12 4) {Post : Int32 → Mem → Prop} (hQ : QI E x Post (some .int)) {v1 : Int32} {v2 : Int32} {v3 : Int32} {v4 : Int32} {M : Mem} {v5 : Int32} {v6 : Int32} (h : wp_X12_metOf_b6 Post v1 v2 v3 v4 (fun M v5 v6 => G E x M 6 [(0, .ref (ad E 29)), (1, .int v1), (2, .int v2), (3, .int v3), (4, .int v4), (5, .int v5), (6, .int v6)] []) (fun M v5 v6 => G E x M 56 [(0, .ref (ad E 29)), (1, .int v1), (2, .int v2), (3, .int v3), (4, .int v4), (5, .int v5), (6, .int v6)] []) (fun M v5 v6 v7 => G E x M 72 [(0, .ref (ad E 29)), (1, .int v1), (2, .int v2), (3, .int v3), (4, .int v4), (5, .int v5), (6, .int v6), (7, .int v7)] []) (fun M v5 v6 v7 => G E x M 96 [(0, .ref (ad E 29)), (1, .int v1), (2, .int v2), (3, .int v3), (4, .int v4), (5, .int v5), (6, .int v6), (7, .int v7)] []) (fun M v5 v6 v7 => G E x M 154 [(0, .ref (ad E 29)), (4, .int v4), (5, .int v5), (6, .int v6), (7, .int v7)] []) (fun M v5 v6 v7 v8 => G E x M 187 [(4, .int v4), (5, .int v5), (6, .int v6), (7, .int v7), (8, .int v8)] []) M v5 v6) : G E x M 6 [(0, .ref (ad E 29)), (1, .int v1), (2, .int v2), (3, .int v3), (4, .int v4), (5, .int v5), (6, .int v6)] [] := by
  refine g_iload X dX12_metOf_6 6 rfl ?_
  refine g_bipush (v := 6) X dX12_metOf_8 (by decide) ?_
  refine g_icmpge (tgt := 53) X dX12_metOf_10 (by decide) h (fun h => ?_) (fun h => ?_)
  · refine g_iconst (v := 0) X dX12_metOf_53 (by decide) ?_
    refine g_istore (lv' := [(0, .ref (ad E 29)), (1, .int v1), (2, .int v2), (3, .int v3), (4, .int v4), (5, .int v5), (6, .int 0)]) X dX12_metOf_54 (Nat.le_of_ble_eq_true rfl) rfl rfl ?_
    exact h
  · refine g_aload_n X dX12_metOf_13 rfl 0 rfl ?_
    refine fg_X12_70 X dX12_metOf_14 ?_
    refine g_iload X dX12_metOf_17 6 rfl ?_
    refine g_iload X dX12_metOf_19 6 rfl ?_
    refine g_aload_n X dX12_metOf_21 rfl 0 rfl ?_
    refine fg_X12_28 X dX12_metOf_22 ?_
    refine g_iload_n X dX12_metOf_25 rfl 1 rfl ?_
    refine g_iald X ia_36 dX12_metOf_26 h (fun h => ?_)
    refine g_icmpne (tgt := 45) X dX12_metOf_27 (by decide) h (fun h => ?_) (fun h => ?_)
    · refine g_iconst (v := 0) X dX12_metOf_45 (by decide) ?_
      refine g_iast X ia_50 dX12_metOf_46 h (fun M1 h => ?_)
      refine g_iinc (w := 1) X dX12_metOf_47 6 rfl (by decide) (Nat.le_of_ble_eq_true rfl) rfl (fun x6_2 => [(0, .ref (ad E 29)), (1, .int v1), (2, .int v2), (3, .int v3), (4, .int v4), (5, .int v5), (6, .int x6_2)]) (fun _ => rfl) h (fun x6_2 h => ?_)
      refine g_goto (tgt := 6) X dX12_metOf_50 (by decide) ?_
      exact h
    · refine g_iload X dX12_metOf_30 6 rfl ?_
      refine g_aload_n X dX12_metOf_32 rfl 0 rfl ?_
      refine fg_X12_28 X dX12_metOf_33 ?_
      refine g_iload_n X dX12_metOf_36 rfl 2 rfl ?_
      refine g_iald X ia_36 dX12_metOf_37 h (fun h => ?_)
      refine g_icmpeq (tgt := 45) X dX12_metOf_38 (by decide) h (fun h => ?_) (fun h => ?_)
      · refine g_iconst (v := 0) X dX12_metOf_45 (by decide) ?_
        refine g_iast X ia_50 dX12_metOf_46 h (fun M3 h => ?_)
        refine g_iinc (w := 1) X dX12_metOf_47 6 rfl (by decide) (Nat.le_of_ble_eq_true rfl) rfl (fun x6_4 => [(0, .ref (ad E 29)), (1, .int v1), (2, .int v2), (3, .int v3), (4, .int v4), (5, .int v5), (6, .int x6_4)]) (fun _ => rfl) h (fun x6_4 h => ?_)
        refine g_goto (tgt := 6) X dX12_metOf_50 (by decide) ?_
        exact h
      · refine g_iconst (v := 1) X dX12_metOf_41 (by decide) ?_
        refine g_goto (tgt := 46) X dX12_metOf_42 (by decide) ?_
        refine g_iast X ia_50 dX12_metOf_46 h (fun M5 h => ?_)
        refine g_iinc (w := 1) X dX12_metOf_47 6 rfl (by decide) (Nat.le_of_ble_eq_true rfl) rfl (fun x6_6 => [(0, .ref (ad E 29)), (1, .int v1), (2, .int v2), (3, .int v3), (4, .int v4), (5, .int v5), (6, .int x6_6)]) (fun _ => rfl) h (fun x6_6 h => ?_)
        refine g_goto (tgt := 6) X dX12_metOf_50 (by decide) ?_
        exact h
theorem w_X12_metOf (E : Ek) (l : Launch) {v1 : Int32} {v2 : Int32} {v3 : Int32} {v4 : Int32} {M : Mem} {Post : Int32 → Mem → Prop} (h : wp_X12_metOf Post M v1 v2 v3 v4) : ctI E l yX12_metOf cX12_metOf 10 (some .int) 4 [.ref (ad E 29), .int v1, .int v2, .int v3, .int v4] M Post := by
  refine ct_of (by decide) (Nat.le_of_ble_eq_true rfl) (fun x X hQ => ?_)
  have h := h (fun M v5 v6 => G E x M 6 [(0, .ref (ad E 29)), (1, .int v1), (2, .int v2), (3, .int v3), (4, .int v4), (5, .int v5), (6, .int v6)] []) (fun M v5 v6 => G E x M 56 [(0, .ref (ad E 29)), (1, .int v1), (2, .int v2), (3, .int v3), (4, .int v4), (5, .int v5), (6, .int v6)] []) (fun M v5 v6 v7 => G E x M 72 [(0, .ref (ad E 29)), (1, .int v1), (2, .int v2), (3, .int v3), (4, .int v4), (5, .int v5), (6, .int v6), (7, .int v7)] []) (fun M v5 v6 v7 => G E x M 96 [(0, .ref (ad E 29)), (1, .int v1), (2, .int v2), (3, .int v3), (4, .int v4), (5, .int v5), (6, .int v6), (7, .int v7)] []) (fun M v5 v6 v7 => G E x M 154 [(0, .ref (ad E 29)), (4, .int v4), (5, .int v5), (6, .int v6), (7, .int v7)] []) (fun M v5 v6 v7 v8 => G E x M 187 [(4, .int v4), (5, .int v5), (6, .int v6), (7, .int v7), (8, .int v8)] []) (fun M v5 v6 h => k_X12_metOf_b6 X hQ  h) (fun M v5 v6 h => k_X12_metOf_b56 X hQ  h) (fun M v5 v6 v7 h => k_X12_metOf_b72 X hQ  h) (fun M v5 v6 v7 h => k_X12_metOf_b96 X hQ  h) (fun M v5 v6 v7 h => k_X12_metOf_b154 X hQ  h) (fun M v5 v6 v7 v8 h => k_X12_metOf_b187 X hQ  h)
  change G E x M 0 [(0, .ref (ad E 29)), (1, .int v1), (2, .int v2), (3, .int v3), (4, .int v4)] []
  refine g_iconst (v := 1) X dX12_metOf_0 (by decide) ?_
  refine g_istore (lv' := [(0, .ref (ad E 29)), (1, .int v1), (2, .int v2), (3, .int v3), (4, .int v4), (5, .int 1)]) X dX12_metOf_1 (Nat.le_of_ble_eq_true rfl) rfl rfl ?_
  refine g_iconst (v := 0) X dX12_metOf_3 (by decide) ?_
  refine g_istore (lv' := [(0, .ref (ad E 29)), (1, .int v1), (2, .int v2), (3, .int v3), (4, .int v4), (5, .int 1), (6, .int 0)]) X dX12_metOf_4 (Nat.le_of_ble_eq_true rfl) rfl rfl ?_
  exact h
theorem cl_X12_298 {E : Ek} {x : MC} {cc : ByteArray} {nL hm pc : Nat} {M : Mem} {lv : List (Nat × Value)} {st : List Value} (X : Cx E x cc nL RX12 hm) {v1 : Int32} {v2 : Int32} {v3 : Int32} {v4 : Int32} {Post : Int32 → Mem → Prop} (hr : 4 < hm) (hW : (st.map fun v => v.category).sum ≤ 8) (hd : decode cc pc = .ok (.invokevirtual 298, 3)) (h : wp_X12_metOf Post M v1 v2 v3 v4) (kk : ∀ r M1, Post r M1 → G E x M1 (pc + 3) lv (.int r :: st)) : G E x M pc lv (.int v4 :: .int v3 :: .int v2 :: .int v1 :: .ref (ad E 29) :: st) := k_I (fun hP hS hL => run_V X (w_X12_metOf E (xl x)  h) cw_X12_metOf m734 m735 m736 (⟨by decide, fun E f h => ⟨_, _, _, rfl, rfl, rfl⟩⟩ : OC 29 RX12) hr rfl hd hW hP hS hL) kk
theorem cw_X12_met : CW yX12_met cX12_met 5 (some .int) 4 := ⟨m737, m499, Nat.le_of_ble_eq_true rfl, by decide +kernel⟩
def wp_X12_met (Post : Int32 → Mem → Prop) (M : Mem) (v1 : Int32) (v2 : Int32) (v3 : Int32) (v4 : Int32) : Prop :=
 wp_X12_isPerson (fun r1 M2 =>
  (r1 = 0 →
   Post (-101) M2) ∧
  (¬ r1 = 0 →
   wp_X12_isPerson (fun r3 M4 =>
    (r3 = 0 →
     Post (-101) M4) ∧
    (¬ r3 = 0 →
     (¬ v1 = v2 →
      wp_X12_in (fun r5 M6 =>
       (r5 = 0 →
        Post (-102) M6) ∧
       (¬ r5 = 0 →
        wp_X12_in (fun r7 M8 =>
         (r7 = 0 →
          Post (-102) M8) ∧
         (¬ r7 = 0 →
          wp_X12_metOf (fun r9 M10 =>
           Post r9 M10) M8 v1 v2 v3 v4)) M6 (v4.toInt64) (0 : Int64) (1 : Int64))) M4 (v3.toInt64) (1 : Int64) (3 : Int64)) ∧
     (v1 = v2 →
      Post (-101) M4))) M2 v2)) M v1
theorem w_X12_met (E : Ek) (l : Launch) {v1 : Int32} {v2 : Int32} {v3 : Int32} {v4 : Int32} {M : Mem} {Post : Int32 → Mem → Prop} (h : wp_X12_met Post M v1 v2 v3 v4) : ctI E l yX12_met cX12_met 5 (some .int) 5 [.ref (ad E 29), .int v1, .int v2, .int v3, .int v4] M Post := by
  refine ct_of (by decide) (Nat.le_of_ble_eq_true rfl) (fun x X hQ => ?_)
  change G E x M 0 [(0, .ref (ad E 29)), (1, .int v1), (2, .int v2), (3, .int v3), (4, .int v4)] []
  refine g_aload_n X dX12_met_0 rfl 0 rfl ?_
  refine g_iload_n X dX12_met_1 rfl 1 rfl ?_
  refine cl_X12_215 X (by decide) (Nat.le_of_ble_eq_true rfl) dX12_met_2 h (fun r1 M2 h => ?_)
  refine g_ifeq (tgt := 21) X dX12_met_5 (by decide) h (fun h => ?_) (fun h => ?_)
  · refine g_bipush (v := (-101)) X dX12_met_21 (by decide) ?_
    exact g_iret X hQ dX12_met_23 h
  · refine g_aload_n X dX12_met_8 rfl 0 rfl ?_
    refine g_iload_n X dX12_met_9 rfl 2 rfl ?_
    refine cl_X12_215 X (by decide) (Nat.le_of_ble_eq_true rfl) dX12_met_10 h (fun r3 M4 h => ?_)
    refine g_ifeq (tgt := 21) X dX12_met_13 (by decide) h (fun h => ?_) (fun h => ?_)
    · refine g_bipush (v := (-101)) X dX12_met_21 (by decide) ?_
      exact g_iret X hQ dX12_met_23 h
    · refine g_iload_n X dX12_met_16 rfl 1 rfl ?_
      refine g_iload_n X dX12_met_17 rfl 2 rfl ?_
      refine g_icmpne (tgt := 24) X dX12_met_18 (by decide) h (fun h => ?_) (fun h => ?_)
      · refine g_iload_n X dX12_met_24 rfl 3 rfl ?_
        refine g_i2l X dX12_met_25 ?_
        refine g_lconst (v := 1) X dX12_met_26 (by decide) ?_
        refine g_ldc2 X dX12_met_27 m733 ?_
        refine cl_X12_103 X (by decide) (Nat.le_of_ble_eq_true rfl) dX12_met_30 h (fun r5 M6 h => ?_)
        refine g_ifeq (tgt := 59) X dX12_met_33 (by decide) h (fun h => ?_) (fun h => ?_)
        · refine g_bipush (v := (-102)) X dX12_met_59 (by decide) ?_
          exact g_iret X hQ dX12_met_61 h
        · refine g_iload X dX12_met_36 4 rfl ?_
          refine g_i2l X dX12_met_38 ?_
          refine g_lconst (v := 0) X dX12_met_39 (by decide) ?_
          refine g_lconst (v := 1) X dX12_met_40 (by decide) ?_
          refine cl_X12_103 X (by decide) (Nat.le_of_ble_eq_true rfl) dX12_met_41 h (fun r7 M8 h => ?_)
          refine g_ifeq (tgt := 59) X dX12_met_44 (by decide) h (fun h => ?_) (fun h => ?_)
          · refine g_bipush (v := (-102)) X dX12_met_59 (by decide) ?_
            exact g_iret X hQ dX12_met_61 h
          · refine g_aload_n X dX12_met_47 rfl 0 rfl ?_
            refine g_iload_n X dX12_met_48 rfl 1 rfl ?_
            refine g_iload_n X dX12_met_49 rfl 2 rfl ?_
            refine g_iload_n X dX12_met_50 rfl 3 rfl ?_
            refine g_iload X dX12_met_51 4 rfl ?_
            refine cl_X12_298 X (by decide) (Nat.le_of_ble_eq_true rfl) dX12_met_53 h (fun r9 M10 h => ?_)
            refine g_goto (tgt := 61) X dX12_met_56 (by decide) ?_
            exact g_iret X hQ dX12_met_61 h
      · refine g_bipush (v := (-101)) X dX12_met_21 (by decide) ?_
        exact g_iret X hQ dX12_met_23 h
theorem cw_X12_see : CW yX12_see cX12_see 3 (some .int) 2 := ⟨m738, m499, Nat.le_of_ble_eq_true rfl, by decide +kernel⟩
def wp_X12_see_b56 (Post : Int32 → Mem → Prop) (v1 : Int32) (v2 : Int32) (M : Mem) (s1 : Int32) (s2 : Int32) : Prop :=
 vp_in s1 12 ∧
 ∀ M4 : Mem, M4 = wr M 52 s1.toNatClampNeg s2 →
 ∀ M5 : Mem, M5 = wr M4 29 31 ((rd M4 29 31) + 1) →
 Post (rd M5 29 31) M5
def wp_X12_see (Post : Int32 → Mem → Prop) (M : Mem) (v1 : Int32) (v2 : Int32) : Prop :=
 wp_X12_isDebt (fun r1 M2 =>
  (¬ r1 = 0 →
   (¬ (rd M2 29 31) = 6 →
    vp_in ((2 : Int32) * (rd M2 29 31)) 12 ∧
    ∀ M3 : Mem, M3 = wr M2 52 ((2 : Int32) * (rd M2 29 31)).toNatClampNeg v1 →
    (v2 = 0 →
     wp_X12_see_b56 Post v1 v2 M3 (((2 : Int32) * (rd M3 29 31)) + 1) 0) ∧
    (¬ v2 = 0 →
     wp_X12_see_b56 Post v1 v2 M3 (((2 : Int32) * (rd M3 29 31)) + 1) 1)) ∧
   ((rd M2 29 31) = 6 →
    Post (-104) M2)) ∧
  (r1 = 0 →
   Post (-101) M2)) M v1
theorem k_X12_see_b56 {E : Ek} {x : MC} (X : Cx E x cX12_see 3 RX12 3) {Post : Int32 → Mem → Prop} (hQ : QI E x Post (some .int)) {v1 : Int32} {v2 : Int32} {M : Mem} {s1 : Int32} {s2 : Int32} (h : wp_X12_see_b56 Post v1 v2 M s1 s2) : G E x M 56 [(0, .ref (ad E 29))] [.int s2, .int s1, .ref (ad E 52)] := by
  refine g_iast X ia_52 dX12_see_56 h (fun M4 h => ?_)
  refine g_aload_n X dX12_see_57 rfl 0 rfl ?_
  refine g_dup X dX12_see_58 rfl ?_
  refine fg_X12_171 X dX12_see_59 ?_
  refine g_iconst (v := 1) X dX12_see_62 (by decide) ?_
  refine g_iadd X dX12_see_63 ?_
  refine fp_X12_171 X dX12_see_64 h (fun M5 h => ?_)
  refine g_aload_n X dX12_see_67 rfl 0 rfl ?_
  refine fg_X12_171 X dX12_see_68 ?_
  exact g_iret X hQ dX12_see_71 h
theorem w_X12_see (E : Ek) (l : Launch) {v1 : Int32} {v2 : Int32} {M : Mem} {Post : Int32 → Mem → Prop} (h : wp_X12_see Post M v1 v2) : ctI E l yX12_see cX12_see 3 (some .int) 3 [.ref (ad E 29), .int v1, .int v2] M Post := by
  refine ct_of (by decide) (Nat.le_of_ble_eq_true rfl) (fun x X hQ => ?_)
  change G E x M 0 [(0, .ref (ad E 29)), (1, .int v1), (2, .int v2)] []
  refine g_aload_n X dX12_see_0 rfl 0 rfl ?_
  refine g_iload_n X dX12_see_1 rfl 1 rfl ?_
  refine cl_X12_230 X (by decide) (Nat.le_of_ble_eq_true rfl) dX12_see_2 h (fun r1 M2 h => ?_)
  refine g_ifne (tgt := 11) X dX12_see_5 (by decide) h (fun h => ?_) (fun h => ?_)
  · refine g_aload_n X dX12_see_11 rfl 0 rfl ?_
    refine fg_X12_171 X dX12_see_12 ?_
    refine g_bipush (v := 6) X dX12_see_15 (by decide) ?_
    refine g_icmpne (tgt := 23) X dX12_see_17 (by decide) h (fun h => ?_) (fun h => ?_)
    · refine g_aload_n X dX12_see_23 rfl 0 rfl ?_
      refine fg_X12_76 X dX12_see_24 ?_
      refine g_iconst (v := 2) X dX12_see_27 (by decide) ?_
      refine g_aload_n X dX12_see_28 rfl 0 rfl ?_
      refine fg_X12_171 X dX12_see_29 ?_
      refine g_imul X dX12_see_32 ?_
      refine g_iload_n X dX12_see_33 rfl 1 rfl ?_
      refine g_iast X ia_52 dX12_see_34 h (fun M3 h => ?_)
      refine g_aload_n X dX12_see_35 rfl 0 rfl ?_
      refine fg_X12_76 X dX12_see_36 ?_
      refine g_iconst (v := 2) X dX12_see_39 (by decide) ?_
      refine g_aload_n X dX12_see_40 rfl 0 rfl ?_
      refine fg_X12_171 X dX12_see_41 ?_
      refine g_imul X dX12_see_44 ?_
      refine g_iconst (v := 1) X dX12_see_45 (by decide) ?_
      refine g_iadd X dX12_see_46 ?_
      refine g_iload_n X dX12_see_47 rfl 2 rfl ?_
      refine g_ifeq (tgt := 55) X dX12_see_48 (by decide) h (fun h => ?_) (fun h => ?_)
      · refine g_iconst (v := 0) X dX12_see_55 (by decide) ?_
        exact g_sub [0] rfl (k_X12_see_b56 X hQ  h)
      · refine g_iconst (v := 1) X dX12_see_51 (by decide) ?_
        refine g_goto (tgt := 56) X dX12_see_52 (by decide) ?_
        exact g_sub [0] rfl (k_X12_see_b56 X hQ  h)
    · refine g_bipush (v := (-104)) X dX12_see_20 (by decide) ?_
      exact g_iret X hQ dX12_see_22 h
  · refine g_bipush (v := (-101)) X dX12_see_8 (by decide) ?_
    exact g_iret X hQ dX12_see_10 h
theorem cw_X12_forget : CW yX12_forget cX12_forget 2 (some .int) 0 := ⟨m739, m499, Nat.le_of_ble_eq_true rfl, by decide +kernel⟩
def wp_X12_forget (Post : Int32 → Mem → Prop) (M : Mem) : Prop :=
 ∀ x1_1 : Int32, x1_1 = rd M 29 31 →
 ∀ M2 : Mem, M2 = wr M 29 31 0 →
 Post x1_1 M2
theorem w_X12_forget (E : Ek) (l : Launch) {M : Mem} {Post : Int32 → Mem → Prop} (h : wp_X12_forget Post M ) : ctI E l yX12_forget cX12_forget 2 (some .int) 1 [.ref (ad E 29)] M Post := by
  refine ct_of (by decide) (Nat.le_of_ble_eq_true rfl) (fun x X hQ => ?_)
  change G E x M 0 [(0, .ref (ad E 29))] []
  refine g_aload_n X dX12_forget_0 rfl 0 rfl ?_
  refine fg_X12_171 X dX12_forget_1 ?_
  refine g_nm h (fun x1_1 h => ?_)
  refine g_istore_n (lv' := [(0, .ref (ad E 29)), (1, .int x1_1)]) X dX12_forget_4 rfl (Nat.le_of_ble_eq_true rfl) rfl rfl ?_
  refine g_aload_n X dX12_forget_5 rfl 0 rfl ?_
  refine g_iconst (v := 0) X dX12_forget_6 (by decide) ?_
  refine fp_X12_171 X dX12_forget_7 h (fun M2 h => ?_)
  refine g_iload_n X dX12_forget_10 rfl 1 rfl ?_
  exact g_iret X hQ dX12_forget_11 h
theorem cw_X12_draw : CW yX12_draw cX12_draw 2 (some .int) 1 := ⟨m745, m499, Nat.le_of_ble_eq_true rfl, by decide +kernel⟩
def wp_X12_draw (Post : Int32 → Mem → Prop) (M : Mem) (v1 : Int32) : Prop :=
 ∀ M1 : Mem, M1 = wr M 29 33 (((((1103515245 : Int64) * ((rd M 29 33).toInt64)) + (12345 : Int64)) &&& (2147483647 : Int64)).toInt32) →
 ¬ v1 = 0 ∧
 Post (((rd M1 29 33) / 65536) - ((rd M1 29 33) / 65536) / v1 * v1) M1
theorem w_X12_draw (E : Ek) (l : Launch) {v1 : Int32} {M : Mem} {Post : Int32 → Mem → Prop} (h : wp_X12_draw Post M v1) : ctI E l yX12_draw cX12_draw 2 (some .int) 1 [.ref (ad E 29), .int v1] M Post := by
  refine ct_of (by decide) (Nat.le_of_ble_eq_true rfl) (fun x X hQ => ?_)
  change G E x M 0 [(0, .ref (ad E 29)), (1, .int v1)] []
  refine g_aload_n X dX12_draw_0 rfl 0 rfl ?_
  refine g_ldc2 X dX12_draw_1 m740 ?_
  refine g_aload_n X dX12_draw_4 rfl 0 rfl ?_
  refine fg_X12_304 X dX12_draw_5 ?_
  refine g_i2l X dX12_draw_8 ?_
  refine g_lmul X dX12_draw_9 ?_
  refine g_ldc2 X dX12_draw_10 m742 ?_
  refine g_ladd X dX12_draw_13 ?_
  refine g_ldc2 X dX12_draw_14 m743 ?_
  refine g_land X dX12_draw_17 ?_
  refine g_l2i X dX12_draw_18 ?_
  refine fp_X12_304 X dX12_draw_19 h (fun M1 h => ?_)
  refine g_aload_n X dX12_draw_22 rfl 0 rfl ?_
  refine fg_X12_304 X dX12_draw_23 ?_
  refine g_ldcw X dX12_draw_26 m744 ?_
  refine g_idiv X dX12_draw_29 ⟨by decide, h⟩ (fun h => ?_)
  refine g_iload_n X dX12_draw_30 rfl 1 rfl ?_
  refine g_irem X dX12_draw_31 h (fun h => ?_)
  exact g_iret X hQ dX12_draw_32 h
theorem cl_X12_316 {E : Ek} {x : MC} {cc : ByteArray} {nL hm pc : Nat} {M : Mem} {lv : List (Nat × Value)} {st : List Value} (X : Cx E x cc nL RX12 hm) {v1 : Int32} {Post : Int32 → Mem → Prop} (hr : 1 < hm) (hW : (st.map fun v => v.category).sum ≤ 8) (hd : decode cc pc = .ok (.invokevirtual 316, 3)) (h : wp_X12_draw Post M v1) (kk : ∀ r M1, Post r M1 → G E x M1 (pc + 3) lv (.int r :: st)) : G E x M pc lv (.int v1 :: .ref (ad E 29) :: st) := k_I (fun hP hS hL => run_V X (w_X12_draw E (xl x)  h) cw_X12_draw m753 m754 m755 (⟨by decide, fun E f h => ⟨_, _, _, rfl, rfl, rfl⟩⟩ : OC 29 RX12) hr rfl hd hW hP hS hL) kk
theorem cw_X12_payAll : CW yX12_payAll cX12_payAll 4 (some .int) 1 := ⟨m746, m499, Nat.le_of_ble_eq_true rfl, by decide +kernel⟩
def wp_X12_payAll_b4 (Post : Int32 → Mem → Prop) (v1 : Int32) (P4 : Mem → Int32 → Int32 → Prop) (M : Mem) (v2 : Int32) (v3 : Int32) : Prop :=
 ((rd M 29 7) ≤ v3 →
  Post v2 M) ∧
 (¬ (rd M 29 7) ≤ v3 →
  vp_in v3 4 ∧
  (¬ (rd M 38 v3.toNatClampNeg) = v1 →
   ∀ x3_1 : Int32, x3_1 = v3 + 1 →
   P4 M v2 x3_1) ∧
  ((rd M 38 v3.toNatClampNeg) = v1 →
   wp_X12_mayThen (fun r2 M3 =>
    (r2 = 0 →
     ∀ x3_4 : Int32, x3_4 = v3 + 1 →
     P4 M3 v2 x3_4) ∧
    (¬ r2 = 0 →
     wp_X12_payThen (fun M6 =>
      vp_in v3 4 ∧
      ∀ x2_7 : Int32, x2_7 = v2 + (rd M6 41 v3.toNatClampNeg) →
      ∀ x3_8 : Int32, x3_8 = v3 + 1 →
      P4 M6 x2_7 x3_8) M3 v3)) M v3))
def wp_X12_payAll (Post : Int32 → Mem → Prop) (M : Mem) (v1 : Int32) : Prop :=
 ∀ (P4 : Mem → Int32 → Int32 → Prop) ,
  (∀ (M : Mem) (v2 : Int32) (v3 : Int32), wp_X12_payAll_b4 Post v1 P4 M v2 v3 → P4 M v2 v3) →
 P4 M 0 0
theorem k_X12_payAll_b4 {E : Ek} {x : MC} (X : Cx E x cX12_payAll 4 RX12 3) {Post : Int32 → Mem → Prop} (hQ : QI E x Post (some .int)) {v1 : Int32} {M : Mem} {v2 : Int32} {v3 : Int32} (h : wp_X12_payAll_b4 Post v1 (fun M v2 v3 => G E x M 4 [(0, .ref (ad E 29)), (1, .int v1), (2, .int v2), (3, .int v3)] []) M v2 v3) : G E x M 4 [(0, .ref (ad E 29)), (1, .int v1), (2, .int v2), (3, .int v3)] [] := by
  refine g_iload_n X dX12_payAll_4 rfl 3 rfl ?_
  refine g_aload_n X dX12_payAll_5 rfl 0 rfl ?_
  refine fg_X12_162 X dX12_payAll_6 ?_
  refine g_icmpge (tgt := 50) X dX12_payAll_9 (by decide) h (fun h => ?_) (fun h => ?_)
  · refine g_iload_n X dX12_payAll_50 rfl 2 rfl ?_
    exact g_iret X hQ dX12_payAll_51 h
  · refine g_aload_n X dX12_payAll_12 rfl 0 rfl ?_
    refine fg_X12_34 X dX12_payAll_13 ?_
    refine g_iload_n X dX12_payAll_16 rfl 3 rfl ?_
    refine g_iald X ia_38 dX12_payAll_17 h (fun h => ?_)
    refine g_iload_n X dX12_payAll_18 rfl 1 rfl ?_
    refine g_icmpne (tgt := 44) X dX12_payAll_19 (by decide) h (fun h => ?_) (fun h => ?_)
    · refine g_iinc (w := 1) X dX12_payAll_44 3 rfl (by decide) (Nat.le_of_ble_eq_true rfl) rfl (fun x3_1 => [(0, .ref (ad E 29)), (1, .int v1), (2, .int v2), (3, .int x3_1)]) (fun _ => rfl) h (fun x3_1 h => ?_)
      refine g_goto (tgt := 4) X dX12_payAll_47 (by decide) ?_
      exact h
    · refine g_aload_n X dX12_payAll_22 rfl 0 rfl ?_
      refine g_iload_n X dX12_payAll_23 rfl 3 rfl ?_
      refine cl_X12_194 X (by decide) (Nat.le_of_ble_eq_true rfl) dX12_payAll_24 h (fun r2 M3 h => ?_)
      refine g_ifeq (tgt := 44) X dX12_payAll_27 (by decide) h (fun h => ?_) (fun h => ?_)
      · refine g_iinc (w := 1) X dX12_payAll_44 3 rfl (by decide) (Nat.le_of_ble_eq_true rfl) rfl (fun x3_4 => [(0, .ref (ad E 29)), (1, .int v1), (2, .int v2), (3, .int x3_4)]) (fun _ => rfl) h (fun x3_4 h => ?_)
        refine g_goto (tgt := 4) X dX12_payAll_47 (by decide) ?_
        exact h
      · refine g_aload_n X dX12_payAll_30 rfl 0 rfl ?_
        refine g_iload_n X dX12_payAll_31 rfl 3 rfl ?_
        refine cl_X12_236 X (by decide) (Nat.le_of_ble_eq_true rfl) dX12_payAll_32 h (fun M6 h => ?_)
        refine g_iload_n X dX12_payAll_35 rfl 2 rfl ?_
        refine g_aload_n X dX12_payAll_36 rfl 0 rfl ?_
        refine fg_X12_43 X dX12_payAll_37 ?_
        refine g_iload_n X dX12_payAll_40 rfl 3 rfl ?_
        refine g_iald X ia_41 dX12_payAll_41 h (fun h => ?_)
        refine g_iadd X dX12_payAll_42 ?_
        refine g_nm h (fun x2_7 h => ?_)
        refine g_istore_n (lv' := [(0, .ref (ad E 29)), (1, .int v1), (2, .int x2_7), (3, .int v3)]) X dX12_payAll_43 rfl (Nat.le_of_ble_eq_true rfl) rfl rfl ?_
        refine g_iinc (w := 1) X dX12_payAll_44 3 rfl (by decide) (Nat.le_of_ble_eq_true rfl) rfl (fun x3_8 => [(0, .ref (ad E 29)), (1, .int v1), (2, .int x2_7), (3, .int x3_8)]) (fun _ => rfl) h (fun x3_8 h => ?_)
        refine g_goto (tgt := 4) X dX12_payAll_47 (by decide) ?_
        exact h
theorem w_X12_payAll (E : Ek) (l : Launch) {v1 : Int32} {M : Mem} {Post : Int32 → Mem → Prop} (h : wp_X12_payAll Post M v1) : ctI E l yX12_payAll cX12_payAll 4 (some .int) 3 [.ref (ad E 29), .int v1] M Post := by
  refine ct_of (by decide) (Nat.le_of_ble_eq_true rfl) (fun x X hQ => ?_)
  have h := h (fun M v2 v3 => G E x M 4 [(0, .ref (ad E 29)), (1, .int v1), (2, .int v2), (3, .int v3)] []) (fun M v2 v3 h => k_X12_payAll_b4 X hQ  h)
  change G E x M 0 [(0, .ref (ad E 29)), (1, .int v1)] []
  refine g_iconst (v := 0) X dX12_payAll_0 (by decide) ?_
  refine g_istore_n (lv' := [(0, .ref (ad E 29)), (1, .int v1), (2, .int 0)]) X dX12_payAll_1 rfl (Nat.le_of_ble_eq_true rfl) rfl rfl ?_
  refine g_iconst (v := 0) X dX12_payAll_2 (by decide) ?_
  refine g_istore_n (lv' := [(0, .ref (ad E 29)), (1, .int v1), (2, .int 0), (3, .int 0)]) X dX12_payAll_3 rfl (Nat.le_of_ble_eq_true rfl) rfl rfl ?_
  exact h
theorem cl_X12_319 {E : Ek} {x : MC} {cc : ByteArray} {nL hm pc : Nat} {M : Mem} {lv : List (Nat × Value)} {st : List Value} (X : Cx E x cc nL RX12 hm) {v1 : Int32} {Post : Int32 → Mem → Prop} (hr : 3 < hm) (hW : (st.map fun v => v.category).sum ≤ 8) (hd : decode cc pc = .ok (.invokevirtual 319, 3)) (h : wp_X12_payAll Post M v1) (kk : ∀ r M1, Post r M1 → G E x M1 (pc + 3) lv (.int r :: st)) : G E x M pc lv (.int v1 :: .ref (ad E 29) :: st) := k_I (fun hP hS hL => run_V X (w_X12_payAll E (xl x)  h) cw_X12_payAll m756 m757 m758 (⟨by decide, fun E f h => ⟨_, _, _, rfl, rfl, rfl⟩⟩ : OC 29 RX12) hr rfl hd hW hP hS hL) kk
theorem cw_X12_paidMany : CW yX12_paidMany cX12_paidMany 4 (some .int) 1 := ⟨m747, m499, Nat.le_of_ble_eq_true rfl, by decide +kernel⟩
def wp_X12_paidMany_b4 (Post : Int32 → Mem → Prop) (q1 n1 : Nat) (P4 : Mem → Int32 → Int32 → Prop) (M : Mem) (v2 : Int32) (v3 : Int32) : Prop :=
 ((rd M 29 7) ≤ v3 →
  Post v2 M) ∧
 (¬ (rd M 29 7) ≤ v3 →
  vp_in v3 n1 ∧
  ∀ x2_1 : Int32, x2_1 = v2 + (rd M q1 v3.toNatClampNeg) →
  ∀ x3_2 : Int32, x3_2 = v3 + 1 →
  P4 M x2_1 x3_2)
def wp_X12_paidMany (Post : Int32 → Mem → Prop) (M : Mem) (q1 n1 : Nat) : Prop :=
 ∀ (P4 : Mem → Int32 → Int32 → Prop) ,
  (∀ (M : Mem) (v2 : Int32) (v3 : Int32), wp_X12_paidMany_b4 Post q1 n1 P4 M v2 v3 → P4 M v2 v3) →
 P4 M 0 0
theorem k_X12_paidMany_b4 {E : Ek} {x : MC} (X : Cx E x cX12_paidMany 4 RX12 1) {Post : Int32 → Mem → Prop} (hQ : QI E x Post (some .int)) {q1 n1 : Nat} (hq1 : IA q1 n1) {M : Mem} {v2 : Int32} {v3 : Int32} (h : wp_X12_paidMany_b4 Post q1 n1 (fun M v2 v3 => G E x M 4 [(0, .ref (ad E 29)), (1, .ref (ad E q1)), (2, .int v2), (3, .int v3)] []) M v2 v3) : G E x M 4 [(0, .ref (ad E 29)), (1, .ref (ad E q1)), (2, .int v2), (3, .int v3)] [] := by
  refine g_iload_n X dX12_paidMany_4 rfl 3 rfl ?_
  refine g_aload_n X dX12_paidMany_5 rfl 0 rfl ?_
  refine fg_X12_162 X dX12_paidMany_6 ?_
  refine g_icmpge (tgt := 24) X dX12_paidMany_9 (by decide) h (fun h => ?_) (fun h => ?_)
  · refine g_iload_n X dX12_paidMany_24 rfl 2 rfl ?_
    exact g_iret X hQ dX12_paidMany_25 h
  · refine g_iload_n X dX12_paidMany_12 rfl 2 rfl ?_
    refine g_aload_n X dX12_paidMany_13 rfl 1 rfl ?_
    refine g_iload_n X dX12_paidMany_14 rfl 3 rfl ?_
    refine g_iald X hq1 dX12_paidMany_15 h (fun h => ?_)
    refine g_iadd X dX12_paidMany_16 ?_
    refine g_nm h (fun x2_1 h => ?_)
    refine g_istore_n (lv' := [(0, .ref (ad E 29)), (1, .ref (ad E q1)), (2, .int x2_1), (3, .int v3)]) X dX12_paidMany_17 rfl (Nat.le_of_ble_eq_true rfl) rfl rfl ?_
    refine g_iinc (w := 1) X dX12_paidMany_18 3 rfl (by decide) (Nat.le_of_ble_eq_true rfl) rfl (fun x3_2 => [(0, .ref (ad E 29)), (1, .ref (ad E q1)), (2, .int x2_1), (3, .int x3_2)]) (fun _ => rfl) h (fun x3_2 h => ?_)
    refine g_goto (tgt := 4) X dX12_paidMany_21 (by decide) ?_
    exact h
theorem w_X12_paidMany (E : Ek) (l : Launch) {q1 n1 : Nat} (hq1 : IA q1 n1) {M : Mem} {Post : Int32 → Mem → Prop} (h : wp_X12_paidMany Post M q1 n1) : ctI E l yX12_paidMany cX12_paidMany 4 (some .int) 1 [.ref (ad E 29), .ref (ad E q1)] M Post := by
  refine ct_of (by decide) (Nat.le_of_ble_eq_true rfl) (fun x X hQ => ?_)
  have h := h (fun M v2 v3 => G E x M 4 [(0, .ref (ad E 29)), (1, .ref (ad E q1)), (2, .int v2), (3, .int v3)] []) (fun M v2 v3 h => k_X12_paidMany_b4 X hQ hq1 h)
  change G E x M 0 [(0, .ref (ad E 29)), (1, .ref (ad E q1))] []
  refine g_iconst (v := 0) X dX12_paidMany_0 (by decide) ?_
  refine g_istore_n (lv' := [(0, .ref (ad E 29)), (1, .ref (ad E q1)), (2, .int 0)]) X dX12_paidMany_1 rfl (Nat.le_of_ble_eq_true rfl) rfl rfl ?_
  refine g_iconst (v := 0) X dX12_paidMany_2 (by decide) ?_
  refine g_istore_n (lv' := [(0, .ref (ad E 29)), (1, .ref (ad E q1)), (2, .int 0), (3, .int 0)]) X dX12_paidMany_3 rfl (Nat.le_of_ble_eq_true rfl) rfl rfl ?_
  exact h
theorem cl_X12_322 {E : Ek} {x : MC} {cc : ByteArray} {nL hm pc : Nat} {M : Mem} {lv : List (Nat × Value)} {st : List Value} (X : Cx E x cc nL RX12 hm) {q1 n1 : Nat} (hq1 : IA q1 n1) {Post : Int32 → Mem → Prop} (hr : 1 < hm) (hW : (st.map fun v => v.category).sum ≤ 8) (hd : decode cc pc = .ok (.invokevirtual 322, 3)) (h : wp_X12_paidMany Post M q1 n1) (kk : ∀ r M1, Post r M1 → G E x M1 (pc + 3) lv (.int r :: st)) : G E x M pc lv (.ref (ad E q1) :: .ref (ad E 29) :: st) := k_I (fun hP hS hL => run_V X (w_X12_paidMany E (xl x) hq1 h) cw_X12_paidMany m750 m751 m752 (⟨by decide, fun E f h => ⟨_, _, _, rfl, rfl, rfl⟩⟩ : OC 29 RX12) hr rfl hd hW hP hS hL) kk
theorem cw_X12_winters : CW yX12_winters cX12_winters 8 (some .int) 3 := ⟨m759, m499, Nat.le_of_ble_eq_true rfl, by decide +kernel⟩
def wp_X12_winters_b119 (Post : Int32 → Mem → Prop) (v1 : Int32) (v2 : Int32) (v3 : Int32) (P56 : Mem → Int32 → Int32 → Prop) (M : Mem) (v4 : Int32) (v5 : Int32) (v6 : Int32) (s1 : Int32) (s2 : Int32) : Prop :=
 vp_in s1 4 ∧
 ∀ M18 : Mem, M18 = wr M 44 s1.toNatClampNeg s2 →
 wp_X12_payAll (fun r19 M20 =>
  ∀ x4_21 : Int32, x4_21 = v4 + r19 →
  ∀ x5_22 : Int32, x5_22 = v5 + 1 →
  P56 M20 x4_21 x5_22) M18 v6
def wp_X12_winters_b56 (Post : Int32 → Mem → Prop) (v1 : Int32) (v2 : Int32) (v3 : Int32) (P56 : Mem → Int32 → Int32 → Prop) (M : Mem) (v4 : Int32) (v5 : Int32) : Prop :=
 (v1 ≤ v5 →
  (¬ v3 = 0 →
   (¬ v3 = 1 →
    Post (rd M 29 33) M) ∧
   (v3 = 1 →
    wp_X12_paidMany (fun r10 M11 =>
     Post r10 M11) M 45 4)) ∧
  (v3 = 0 →
   Post v4 M)) ∧
 (¬ v1 ≤ v5 →
  wp_X12_draw (fun r12 M13 =>
   wp_X12_draw (fun r14 M15 =>
    vp_in r12 4 ∧
    wp_X12_through (fun r16 M17 =>
     (¬ r16 = (-1) →
      wp_X12_winters_b119 Post v1 v2 v3 P56 M17 v4 v5 r12 r12 r16) ∧
     (r16 = (-1) →
      vp_in r12 4 ∧
      wp_X12_winters_b119 Post v1 v2 v3 P56 M17 v4 v5 r12 r12 (rd M17 44 r12.toNatClampNeg))) M15 r12 r14 (rd M15 44 r12.toNatClampNeg)) M13 (rd M13 29 5)) M (rd M 29 6))
def wp_X12_winters (Post : Int32 → Mem → Prop) (M : Mem) (v1 : Int32) (v2 : Int32) (v3 : Int32) : Prop :=
 ∀ (P56 : Mem → Int32 → Int32 → Prop) ,
  (∀ (M : Mem) (v4 : Int32) (v5 : Int32), wp_X12_winters_b56 Post v1 v2 v3 P56 M v4 v5 → P56 M v4 v5) →
 wp_X12_in (fun r1 M2 =>
  (r1 = 0 →
   Post (-102) M2) ∧
  (¬ r1 = 0 →
   (v2 < 0 →
    Post (-102) M2) ∧
   (¬ v2 < 0 →
    wp_X12_in (fun r3 M4 =>
     (¬ r3 = 0 →
      wp_X12_lacks (fun r5 M6 =>
       (r5 = 0 →
        ∀ M7 : Mem, M7 = wr M6 29 33 v2 →
        wp_X12_begin (fun M9 =>
         P56 M9 0 0) M7 ) ∧
       (¬ r5 = 0 →
        Post (-103) M6)) M4 ) ∧
     (r3 = 0 →
      Post (-102) M4)) M2 (v3.toInt64) (0 : Int64) (2 : Int64)))) M (v1.toInt64) (1 : Int64) (60 : Int64)
theorem k_X12_winters_b119 {E : Ek} {x : MC} (X : Cx E x cX12_winters 8 RX12 4) {Post : Int32 → Mem → Prop} (hQ : QI E x Post (some .int)) {v1 : Int32} {v2 : Int32} {v3 : Int32} {M : Mem} {v4 : Int32} {v5 : Int32} {v6 : Int32} {s1 : Int32} {s2 : Int32} (h : wp_X12_winters_b119 Post v1 v2 v3 (fun M v4 v5 => G E x M 56 [(0, .ref (ad E 29)), (1, .int v1), (3, .int v3), (4, .int v4), (5, .int v5)] []) M v4 v5 v6 s1 s2) : G E x M 119 [(0, .ref (ad E 29)), (1, .int v1), (3, .int v3), (4, .int v4), (5, .int v5), (6, .int v6)] [.int s2, .int s1, .ref (ad E 44)] := by
  refine g_iast X ia_44 dX12_winters_119 h (fun M18 h => ?_)
  refine g_iload X dX12_winters_120 3 rfl ?_
  refine g_aload_n X dX12_winters_122 rfl 0 rfl ?_
  refine g_iload X dX12_winters_123 5 rfl ?_
  refine cl_X12_319 X (by decide) (Nat.le_of_ble_eq_true rfl) dX12_winters_125 h (fun r19 M20 h => ?_)
  refine g_iadd X dX12_winters_128 ?_
  refine g_nm h (fun x4_21 h => ?_)
  refine g_istore (lv' := [(0, .ref (ad E 29)), (1, .int v1), (3, .int v3), (4, .int x4_21), (5, .int v5), (6, .int v6)]) X dX12_winters_129 (Nat.le_of_ble_eq_true rfl) rfl rfl ?_
  refine g_iinc (w := 1) X dX12_winters_131 4 rfl (by decide) (Nat.le_of_ble_eq_true rfl) rfl (fun x5_22 => [(0, .ref (ad E 29)), (1, .int v1), (3, .int v3), (4, .int x4_21), (5, .int x5_22), (6, .int v6)]) (fun _ => rfl) h (fun x5_22 h => ?_)
  refine g_goto (tgt := 56) X dX12_winters_134 (by decide) ?_
  exact g_sub [0, 1, 2, 3, 4] rfl h
theorem k_X12_winters_b56 {E : Ek} {x : MC} (X : Cx E x cX12_winters 8 RX12 4) {Post : Int32 → Mem → Prop} (hQ : QI E x Post (some .int)) {v1 : Int32} {v2 : Int32} {v3 : Int32} {M : Mem} {v4 : Int32} {v5 : Int32} (h : wp_X12_winters_b56 Post v1 v2 v3 (fun M v4 v5 => G E x M 56 [(0, .ref (ad E 29)), (1, .int v1), (3, .int v3), (4, .int v4), (5, .int v5)] []) M v4 v5) : G E x M 56 [(0, .ref (ad E 29)), (1, .int v1), (3, .int v3), (4, .int v4), (5, .int v5)] [] := by
  refine g_iload X dX12_winters_56 4 rfl ?_
  refine g_iload_n X dX12_winters_58 rfl 1 rfl ?_
  refine g_icmpge (tgt := 137) X dX12_winters_59 (by decide) h (fun h => ?_) (fun h => ?_)
  · refine g_iload_n X dX12_winters_137 rfl 2 rfl ?_
    refine g_ifne (tgt := 146) X dX12_winters_138 (by decide) h (fun h => ?_) (fun h => ?_)
    · refine g_iload_n X dX12_winters_146 rfl 2 rfl ?_
      refine g_iconst (v := 1) X dX12_winters_147 (by decide) ?_
      refine g_icmpne (tgt := 162) X dX12_winters_148 (by decide) h (fun h => ?_) (fun h => ?_)
      · refine g_aload_n X dX12_winters_162 rfl 0 rfl ?_
        refine fg_X12_304 X dX12_winters_163 ?_
        exact g_iret X hQ dX12_winters_166 h
      · refine g_aload_n X dX12_winters_151 rfl 0 rfl ?_
        refine g_aload_n X dX12_winters_152 rfl 0 rfl ?_
        refine fg_X12_55 X dX12_winters_153 ?_
        refine cl_X12_322 X ia_45 (by decide) (Nat.le_of_ble_eq_true rfl) dX12_winters_156 h (fun r10 M11 h => ?_)
        refine g_goto (tgt := 166) X dX12_winters_159 (by decide) ?_
        exact g_iret X hQ dX12_winters_166 h
    · refine g_iload X dX12_winters_141 3 rfl ?_
      refine g_goto (tgt := 166) X dX12_winters_143 (by decide) ?_
      exact g_iret X hQ dX12_winters_166 h
  · refine g_aload_n X dX12_winters_62 rfl 0 rfl ?_
    refine g_aload_n X dX12_winters_63 rfl 0 rfl ?_
    refine fg_X12_159 X dX12_winters_64 ?_
    refine cl_X12_316 X (by decide) (Nat.le_of_ble_eq_true rfl) dX12_winters_67 h (fun r12 M13 h => ?_)
    refine g_istore (lv' := [(0, .ref (ad E 29)), (1, .int v1), (3, .int v3), (4, .int v4), (5, .int v5), (6, .int r12)]) X dX12_winters_70 (Nat.le_of_ble_eq_true rfl) rfl rfl ?_
    refine g_aload_n X dX12_winters_72 rfl 0 rfl ?_
    refine g_iload X dX12_winters_73 5 rfl ?_
    refine g_aload_n X dX12_winters_75 rfl 0 rfl ?_
    refine g_aload_n X dX12_winters_76 rfl 0 rfl ?_
    refine fg_X12_156 X dX12_winters_77 ?_
    refine cl_X12_316 X (by decide) (Nat.le_of_ble_eq_true rfl) dX12_winters_80 h (fun r14 M15 h => ?_)
    refine g_aload_n X dX12_winters_83 rfl 0 rfl ?_
    refine fg_X12_52 X dX12_winters_84 ?_
    refine g_iload X dX12_winters_87 5 rfl ?_
    refine g_iald X ia_44 dX12_winters_89 h (fun h => ?_)
    refine cl_X12_187 X (by decide) (Nat.le_of_ble_eq_true rfl) dX12_winters_90 h (fun r16 M17 h => ?_)
    refine g_istore (lv' := [(0, .ref (ad E 29)), (1, .int v1), (3, .int v3), (4, .int v4), (5, .int v5), (6, .int r12), (7, .int r16)]) X dX12_winters_93 (Nat.le_of_ble_eq_true rfl) rfl rfl ?_
    refine g_aload_n X dX12_winters_95 rfl 0 rfl ?_
    refine fg_X12_52 X dX12_winters_96 ?_
    refine g_iload X dX12_winters_99 5 rfl ?_
    refine g_iload X dX12_winters_101 6 rfl ?_
    refine g_iconst (v := (-1)) X dX12_winters_103 (by decide) ?_
    refine g_icmpne (tgt := 117) X dX12_winters_104 (by decide) h (fun h => ?_) (fun h => ?_)
    · refine g_iload X dX12_winters_117 6 rfl ?_
      exact g_sub [0, 1, 2, 3, 4, 5] rfl (k_X12_winters_b119 X hQ  h)
    · refine g_aload_n X dX12_winters_107 rfl 0 rfl ?_
      refine fg_X12_52 X dX12_winters_108 ?_
      refine g_iload X dX12_winters_111 5 rfl ?_
      refine g_iald X ia_44 dX12_winters_113 h (fun h => ?_)
      refine g_goto (tgt := 119) X dX12_winters_114 (by decide) ?_
      exact g_sub [0, 1, 2, 3, 4, 5] rfl (k_X12_winters_b119 X hQ  h)
theorem w_X12_winters (E : Ek) (l : Launch) {v1 : Int32} {v2 : Int32} {v3 : Int32} {M : Mem} {Post : Int32 → Mem → Prop} (h : wp_X12_winters Post M v1 v2 v3) : ctI E l yX12_winters cX12_winters 8 (some .int) 4 [.ref (ad E 29), .int v1, .int v2, .int v3] M Post := by
  refine ct_of (by decide) (Nat.le_of_ble_eq_true rfl) (fun x X hQ => ?_)
  have h := h (fun M v4 v5 => G E x M 56 [(0, .ref (ad E 29)), (1, .int v1), (3, .int v3), (4, .int v4), (5, .int v5)] []) (fun M v4 v5 h => k_X12_winters_b56 X hQ  h)
  change G E x M 0 [(0, .ref (ad E 29)), (1, .int v1), (2, .int v2), (3, .int v3)] []
  refine g_iload_n X dX12_winters_0 rfl 1 rfl ?_
  refine g_i2l X dX12_winters_1 ?_
  refine g_lconst (v := 1) X dX12_winters_2 (by decide) ?_
  refine g_ldc2 X dX12_winters_3 m748 ?_
  refine cl_X12_103 X (by decide) (Nat.le_of_ble_eq_true rfl) dX12_winters_6 h (fun r1 M2 h => ?_)
  refine g_ifeq (tgt := 28) X dX12_winters_9 (by decide) h (fun h => ?_) (fun h => ?_)
  · refine g_bipush (v := (-102)) X dX12_winters_28 (by decide) ?_
    exact g_iret X hQ dX12_winters_30 h
  · refine g_iload_n X dX12_winters_12 rfl 2 rfl ?_
    refine g_iflt (tgt := 28) X dX12_winters_13 (by decide) h (fun h => ?_) (fun h => ?_)
    · refine g_bipush (v := (-102)) X dX12_winters_28 (by decide) ?_
      exact g_iret X hQ dX12_winters_30 h
    · refine g_iload_n X dX12_winters_16 rfl 3 rfl ?_
      refine g_i2l X dX12_winters_17 ?_
      refine g_lconst (v := 0) X dX12_winters_18 (by decide) ?_
      refine g_ldc2 X dX12_winters_19 m749 ?_
      refine cl_X12_103 X (by decide) (Nat.le_of_ble_eq_true rfl) dX12_winters_22 h (fun r3 M4 h => ?_)
      refine g_ifne (tgt := 31) X dX12_winters_25 (by decide) h (fun h => ?_) (fun h => ?_)
      · refine g_aload_n X dX12_winters_31 rfl 0 rfl ?_
        refine cl_X12_286 X (by decide) (Nat.le_of_ble_eq_true rfl) dX12_winters_32 h (fun r5 M6 h => ?_)
        refine g_ifeq (tgt := 41) X dX12_winters_35 (by decide) h (fun h => ?_) (fun h => ?_)
        · refine g_aload_n X dX12_winters_41 rfl 0 rfl ?_
          refine g_iload_n X dX12_winters_42 rfl 2 rfl ?_
          refine fp_X12_304 X dX12_winters_43 h (fun M7 h => ?_)
          refine g_aload_n X dX12_winters_46 rfl 0 rfl ?_
          refine cl_X12_191 X (by decide) (Nat.le_of_ble_eq_true rfl) dX12_winters_47 h (fun M9 h => ?_)
          refine g_iconst (v := 0) X dX12_winters_50 (by decide) ?_
          refine g_istore (lv' := [(0, .ref (ad E 29)), (1, .int v1), (2, .int v2), (3, .int v3), (4, .int 0)]) X dX12_winters_51 (Nat.le_of_ble_eq_true rfl) rfl rfl ?_
          refine g_iconst (v := 0) X dX12_winters_53 (by decide) ?_
          refine g_istore (lv' := [(0, .ref (ad E 29)), (1, .int v1), (2, .int v2), (3, .int v3), (4, .int 0), (5, .int 0)]) X dX12_winters_54 (Nat.le_of_ble_eq_true rfl) rfl rfl ?_
          exact g_sub [0, 1, 3, 4, 5] rfl h
        · refine g_bipush (v := (-103)) X dX12_winters_38 (by decide) ?_
          exact g_iret X hQ dX12_winters_40 h
      · refine g_bipush (v := (-102)) X dX12_winters_28 (by decide) ?_
        exact g_iret X hQ dX12_winters_30 h
theorem cw_X12_image : CW yX12_image cX12_image 1 (some .int) 0 := ⟨m769, m499, Nat.le_of_ble_eq_true rfl, by decide +kernel⟩
def wp_X12_image (Post : Int32 → Mem → Prop) (M : Mem) : Prop :=
 wp_X12_lacks (fun r1 M2 =>
  (r1 = 0 →
   wp_X12_copy (fun M4 =>
    wp_X12_copy (fun M6 =>
     wp_X12_copy (fun M8 =>
      wp_X12_copy (fun M10 =>
       wp_X12_copy (fun M12 =>
        wp_X12_copy (fun M14 =>
         ∀ M15 : Mem, M15 = wr M14 29 35 (rd M14 29 8) →
         ∀ M16 : Mem, M16 = wr M15 29 36 (rd M15 29 31) →
         ∀ M17 : Mem, M17 = wr M16 29 34 (rd M16 29 9) →
         Post (rd M17 29 8) M17) M12 52 12 58 12) M10 42 4 57 4) M8 41 4 56 4) M6 37 2 55 2) M4 36 4 54 4) M2 35 4 53 4) ∧
  (¬ r1 = 0 →
   Post (-103) M2)) M 
theorem w_X12_image (E : Ek) (l : Launch) {M : Mem} {Post : Int32 → Mem → Prop} (h : wp_X12_image Post M ) : ctI E l yX12_image cX12_image 1 (some .int) 2 [.ref (ad E 29)] M Post := by
  refine ct_of (by decide) (Nat.le_of_ble_eq_true rfl) (fun x X hQ => ?_)
  change G E x M 0 [(0, .ref (ad E 29))] []
  refine g_aload_n X dX12_image_0 rfl 0 rfl ?_
  refine cl_X12_286 X (by decide) (Nat.le_of_ble_eq_true rfl) dX12_image_1 h (fun r1 M2 h => ?_)
  refine g_ifeq (tgt := 10) X dX12_image_4 (by decide) h (fun h => ?_) (fun h => ?_)
  · refine g_aload_n X dX12_image_10 rfl 0 rfl ?_
    refine fg_X12_25 X dX12_image_11 ?_
    refine g_aload_n X dX12_image_14 rfl 0 rfl ?_
    refine fg_X12_79 X dX12_image_15 ?_
    refine cl_X12_177 X ia_35 ia_53 (by decide) (Nat.le_of_ble_eq_true rfl) dX12_image_18 h (fun M4 h => ?_)
    refine g_aload_n X dX12_image_21 rfl 0 rfl ?_
    refine fg_X12_28 X dX12_image_22 ?_
    refine g_aload_n X dX12_image_25 rfl 0 rfl ?_
    refine fg_X12_82 X dX12_image_26 ?_
    refine cl_X12_177 X ia_36 ia_54 (by decide) (Nat.le_of_ble_eq_true rfl) dX12_image_29 h (fun M6 h => ?_)
    refine g_aload_n X dX12_image_32 rfl 0 rfl ?_
    refine fg_X12_31 X dX12_image_33 ?_
    refine g_aload_n X dX12_image_36 rfl 0 rfl ?_
    refine fg_X12_85 X dX12_image_37 ?_
    refine cl_X12_177 X ia_37 ia_55 (by decide) (Nat.le_of_ble_eq_true rfl) dX12_image_40 h (fun M8 h => ?_)
    refine g_aload_n X dX12_image_43 rfl 0 rfl ?_
    refine fg_X12_43 X dX12_image_44 ?_
    refine g_aload_n X dX12_image_47 rfl 0 rfl ?_
    refine fg_X12_88 X dX12_image_48 ?_
    refine cl_X12_177 X ia_41 ia_56 (by decide) (Nat.le_of_ble_eq_true rfl) dX12_image_51 h (fun M10 h => ?_)
    refine g_aload_n X dX12_image_54 rfl 0 rfl ?_
    refine fg_X12_46 X dX12_image_55 ?_
    refine g_aload_n X dX12_image_58 rfl 0 rfl ?_
    refine fg_X12_91 X dX12_image_59 ?_
    refine cl_X12_177 X ia_42 ia_57 (by decide) (Nat.le_of_ble_eq_true rfl) dX12_image_62 h (fun M12 h => ?_)
    refine g_aload_n X dX12_image_65 rfl 0 rfl ?_
    refine fg_X12_76 X dX12_image_66 ?_
    refine g_aload_n X dX12_image_69 rfl 0 rfl ?_
    refine fg_X12_94 X dX12_image_70 ?_
    refine cl_X12_177 X ia_52 ia_58 (by decide) (Nat.le_of_ble_eq_true rfl) dX12_image_73 h (fun M14 h => ?_)
    refine g_aload_n X dX12_image_76 rfl 0 rfl ?_
    refine g_aload_n X dX12_image_77 rfl 0 rfl ?_
    refine fg_X12_168 X dX12_image_78 ?_
    refine fp_X12_326 X dX12_image_81 h (fun M15 h => ?_)
    refine g_aload_n X dX12_image_84 rfl 0 rfl ?_
    refine g_aload_n X dX12_image_85 rfl 0 rfl ?_
    refine fg_X12_171 X dX12_image_86 ?_
    refine fp_X12_329 X dX12_image_89 h (fun M16 h => ?_)
    refine g_aload_n X dX12_image_92 rfl 0 rfl ?_
    refine g_aload_n X dX12_image_93 rfl 0 rfl ?_
    refine fg_X12_174 X dX12_image_94 ?_
    refine fp_X12_97 X dX12_image_97 h (fun M17 h => ?_)
    refine g_aload_n X dX12_image_100 rfl 0 rfl ?_
    refine fg_X12_168 X dX12_image_101 ?_
    exact g_iret X hQ dX12_image_104 h
  · refine g_bipush (v := (-103)) X dX12_image_7 (by decide) ?_
    exact g_iret X hQ dX12_image_9 h
