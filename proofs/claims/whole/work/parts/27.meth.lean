theorem cw_X0_allPurses : CW yX0_allPurses cX0_allPurses 3 (some .int) 0 := ⟨m454, m144, Nat.le_of_ble_eq_true rfl, by decide +kernel⟩
def wp_X0_allPurses_b4 (Post : Int32 → Mem → Prop) (o : Nat) (P4 : Mem → Int32 → Int32 → Prop) (M : Mem) (v1 : Int32) (v2 : Int32) : Prop :=
 ((rd M 3 2) ≤ v2 →
  Post v1 M) ∧
 (¬ (rd M 3 2) ≤ v2 →
  vp_in v2 4 ∧
  ∀ x1_1 : Int32, x1_1 = v1 + (rd M (o + 1) v2.toNatClampNeg) →
  ∀ x2_2 : Int32, x2_2 = v2 + 1 →
  P4 M x1_1 x2_2)
def wp_X0_allPurses (Post : Int32 → Mem → Prop) (M : Mem) (o : Nat) : Prop :=
 ∀ (P4 : Mem → Int32 → Int32 → Prop) ,
  (∀ (M : Mem) (v1 : Int32) (v2 : Int32), wp_X0_allPurses_b4 Post o P4 M v1 v2 → P4 M v1 v2) →
 P4 M 0 0
theorem k_X0_allPurses_b4 {E : Ek} {x : MC} (X : Cx E x cX0_allPurses 3 RX0 1) {Post : Int32 → Mem → Prop} (hQ : QI E x Post (some .int)) {o : Nat} (ho : Aff o) {M : Mem} {v1 : Int32} {v2 : Int32} (h : wp_X0_allPurses_b4 Post o (fun M v1 v2 => G E x M 4 [(0, .ref (ad E o)), (1, .int v1), (2, .int v2)] []) M v1 v2) : G E x M 4 [(0, .ref (ad E o)), (1, .int v1), (2, .int v2)] [] := by
  refine g_iload_n X dX0_allPurses_4 rfl 2 rfl ?_
  refine g_aload_n X dX0_allPurses_5 rfl 0 rfl ?_
  refine fg_X0_34 X ho dX0_allPurses_6 ?_
  refine fg_X0_109 X dX0_allPurses_9 ?_
  refine g_icmpge (tgt := 30) X dX0_allPurses_12 (by decide) h (fun h => ?_) (fun h => ?_)
  · refine g_iload_n X dX0_allPurses_30 rfl 1 rfl ?_
    exact g_iret X hQ dX0_allPurses_31 h
  · refine g_iload_n X dX0_allPurses_15 rfl 1 rfl ?_
    refine g_aload_n X dX0_allPurses_16 rfl 0 rfl ?_
    refine fg_X0_9 X ho dX0_allPurses_17 ?_
    refine g_iload_n X dX0_allPurses_20 rfl 2 rfl ?_
    refine g_iald X (af_ia1 ho) dX0_allPurses_21 h (fun h => ?_)
    refine g_iadd X dX0_allPurses_22 ?_
    refine g_nm h (fun x1_1 h => ?_)
    refine g_istore_n (lv' := [(0, .ref (ad E o)), (1, .int x1_1), (2, .int v2)]) X dX0_allPurses_23 rfl (Nat.le_of_ble_eq_true rfl) rfl rfl ?_
    refine g_iinc (w := 1) X dX0_allPurses_24 2 rfl (by decide) (Nat.le_of_ble_eq_true rfl) rfl (fun x2_2 => [(0, .ref (ad E o)), (1, .int x1_1), (2, .int x2_2)]) (fun _ => rfl) h (fun x2_2 h => ?_)
    refine g_goto (tgt := 4) X dX0_allPurses_27 (by decide) ?_
    exact h
theorem w_X0_allPurses (E : Ek) (l : Launch) {o : Nat} (ho : Aff o) {M : Mem} {Post : Int32 → Mem → Prop} (h : wp_X0_allPurses Post M o) : ctI E l yX0_allPurses cX0_allPurses 3 (some .int) 1 [.ref (ad E o)] M Post := by
  refine ct_of (by decide) (Nat.le_of_ble_eq_true rfl) (fun x X hQ => ?_)
  have h := h (fun M v1 v2 => G E x M 4 [(0, .ref (ad E o)), (1, .int v1), (2, .int v2)] []) (fun M v1 v2 h => k_X0_allPurses_b4 X hQ ho h)
  change G E x M 0 [(0, .ref (ad E o))] []
  refine g_iconst (v := 0) X dX0_allPurses_0 (by decide) ?_
  refine g_istore_n (lv' := [(0, .ref (ad E o)), (1, .int 0)]) X dX0_allPurses_1 rfl (Nat.le_of_ble_eq_true rfl) rfl rfl ?_
  refine g_iconst (v := 0) X dX0_allPurses_2 (by decide) ?_
  refine g_istore_n (lv' := [(0, .ref (ad E o)), (1, .int 0), (2, .int 0)]) X dX0_allPurses_3 rfl (Nat.le_of_ble_eq_true rfl) rfl rfl ?_
  exact h
theorem cl_X11_264 {E : Ek} {x : MC} {cc : ByteArray} {nL hm pc : Nat} {M : Mem} {lv : List (Nat × Value)} {st : List Value} (X : Cx E x cc nL RX11 hm) {o : Nat} (ho : Aff o) {Post : Int32 → Mem → Prop} (hr : 1 < hm) (hW : (st.map fun v => v.category).sum ≤ 8) (hd : decode cc pc = .ok (.invokevirtual 264, 3)) (h : wp_X0_allPurses Post M o) (kk : ∀ r M1, Post r M1 → G E x M1 (pc + 3) lv (.int r :: st)) : G E x M pc lv (.ref (ad E o) :: st) := k_I (fun hP hS hL => run_VN X (w_X0_allPurses E (xl x) ho h) cw_X0_allPurses m458 m459 m460 (af_oc ho) hr rfl hd hW hP hS hL) kk
theorem cw_X11_count : CW yX11_count cX11_count 2 (some .int) 1 := ⟨m462, m10, Nat.le_of_ble_eq_true rfl, by decide +kernel⟩
def wp_X11_count (Post : Int32 → Mem → Prop) (M : Mem) (v1 : Int32) : Prop :=
 (v1 = 0 →
  Post (rd M 3 0) M) ∧
 (v1 = 1 →
  Post (rd M 3 1) M) ∧
 (v1 = 2 →
  Post (rd M 3 2) M) ∧
 (v1 = 3 →
  Post (rd M 3 3) M) ∧
 (v1 = 4 →
  wp_X0_paidDebts (fun r1 M2 =>
   Post r1 M2) M 59) ∧
 (v1 = 5 →
  wp_X0_sumsNotPaid (fun r3 M4 =>
   Post r3 M4) M 59) ∧
 (v1 = 6 →
  wp_X0_allPurses (fun r5 M6 =>
   Post r5 M6) M 59) ∧
 (v1 = 7 →
  Post (rd M 59 9) M) ∧
 (v1 = 8 →
  (¬ (rd M 3 2) = 0 →
   vp_in 0 2 ∧
   Post (rd M 62 (0 : Int32).toNatClampNeg) M) ∧
  ((rd M 3 2) = 0 →
   Post (-1) M)) ∧
 (v1 = 9 →
  (¬ (rd M 3 2) = 0 →
   vp_in 1 2 ∧
   Post (rd M 62 (1 : Int32).toNatClampNeg) M) ∧
  ((rd M 3 2) = 0 →
   Post (-1) M)) ∧
 (v1 = 10 →
  Post (rd M 59 8) M) ∧
 (v1 = 11 →
  Post (rd M 1 1) M) ∧
 (v1 = 12 →
  Post (rd M 0 9) M) ∧
 (¬ v1 = 0 → ¬ v1 = 1 → ¬ v1 = 2 → ¬ v1 = 3 → ¬ v1 = 4 → ¬ v1 = 5 → ¬ v1 = 6 → ¬ v1 = 7 → ¬ v1 = 8 → ¬ v1 = 9 → ¬ v1 = 10 → ¬ v1 = 11 → ¬ v1 = 12 → 
  Post (-102) M)
theorem w_X11_count (E : Ek) (l : Launch) {v1 : Int32} {M : Mem} {Post : Int32 → Mem → Prop} (h : wp_X11_count Post M v1) : ctI E l yX11_count cX11_count 2 (some .int) 2 [.ref (ad E 0), .int v1] M Post := by
  refine ct_of (by decide) (Nat.le_of_ble_eq_true rfl) (fun x X hQ => ?_)
  change G E x M 0 [(0, .ref (ad E 0)), (1, .int v1)] []
  refine g_iload_n X dX11_count_0 rfl 1 rfl ?_
  by_cases c0 : v1 = 0
  · have h := h.1 c0
    refine g_tabI (tgt := 68) X dX11_count_1 c0 ⟨⟨by decide, by decide⟩, rfl⟩ (by decide) ?_
    refine g_aload_n X dX11_count_68 rfl 0 rfl ?_
    refine fg_X11_19 X dX11_count_69 ?_
    refine fg_X11_255 X dX11_count_72 ?_
    exact g_iret X hQ dX11_count_75 h
  by_cases c1 : v1 = 1
  · have h := h.2.1 c1
    refine g_tabI (tgt := 76) X dX11_count_1 c1 ⟨⟨by decide, by decide⟩, rfl⟩ (by decide) ?_
    refine g_aload_n X dX11_count_76 rfl 0 rfl ?_
    refine fg_X11_19 X dX11_count_77 ?_
    refine fg_X11_241 X dX11_count_80 ?_
    exact g_iret X hQ dX11_count_83 h
  by_cases c2 : v1 = 2
  · have h := h.2.2.1 c2
    refine g_tabI (tgt := 84) X dX11_count_1 c2 ⟨⟨by decide, by decide⟩, rfl⟩ (by decide) ?_
    refine g_aload_n X dX11_count_84 rfl 0 rfl ?_
    refine fg_X11_19 X dX11_count_85 ?_
    refine fg_X11_90 X dX11_count_88 ?_
    exact g_iret X hQ dX11_count_91 h
  by_cases c3 : v1 = 3
  · have h := h.2.2.2.1 c3
    refine g_tabI (tgt := 92) X dX11_count_1 c3 ⟨⟨by decide, by decide⟩, rfl⟩ (by decide) ?_
    refine g_aload_n X dX11_count_92 rfl 0 rfl ?_
    refine fg_X11_19 X dX11_count_93 ?_
    refine fg_X11_258 X dX11_count_96 ?_
    exact g_iret X hQ dX11_count_99 h
  by_cases c4 : v1 = 4
  · have h := h.2.2.2.2.1 c4
    refine g_tabI (tgt := 100) X dX11_count_1 c4 ⟨⟨by decide, by decide⟩, rfl⟩ (by decide) ?_
    refine g_aload_n X dX11_count_100 rfl 0 rfl ?_
    refine fg_X11_28 X dX11_count_101 ?_
    refine cl_X11_252 X aff_59 (by decide) (Nat.le_of_ble_eq_true rfl) dX11_count_104 h (fun r1 M2 h => ?_)
    exact g_iret X hQ dX11_count_107 h
  by_cases c5 : v1 = 5
  · have h := h.2.2.2.2.2.1 c5
    refine g_tabI (tgt := 108) X dX11_count_1 c5 ⟨⟨by decide, by decide⟩, rfl⟩ (by decide) ?_
    refine g_aload_n X dX11_count_108 rfl 0 rfl ?_
    refine fg_X11_28 X dX11_count_109 ?_
    refine cl_X11_261 X aff_59 (by decide) (Nat.le_of_ble_eq_true rfl) dX11_count_112 h (fun r3 M4 h => ?_)
    exact g_iret X hQ dX11_count_115 h
  by_cases c6 : v1 = 6
  · have h := h.2.2.2.2.2.2.1 c6
    refine g_tabI (tgt := 116) X dX11_count_1 c6 ⟨⟨by decide, by decide⟩, rfl⟩ (by decide) ?_
    refine g_aload_n X dX11_count_116 rfl 0 rfl ?_
    refine fg_X11_28 X dX11_count_117 ?_
    refine cl_X11_264 X aff_59 (by decide) (Nat.le_of_ble_eq_true rfl) dX11_count_120 h (fun r5 M6 h => ?_)
    exact g_iret X hQ dX11_count_123 h
  by_cases c7 : v1 = 7
  · have h := h.2.2.2.2.2.2.2.1 c7
    refine g_tabI (tgt := 124) X dX11_count_1 c7 ⟨⟨by decide, by decide⟩, rfl⟩ (by decide) ?_
    refine g_aload_n X dX11_count_124 rfl 0 rfl ?_
    refine fg_X11_28 X dX11_count_125 ?_
    refine fg_X11_173 X aff_59 dX11_count_128 ?_
    exact g_iret X hQ dX11_count_131 h
  by_cases c8 : v1 = 8
  · have h := h.2.2.2.2.2.2.2.2.1 c8
    refine g_tabI (tgt := 132) X dX11_count_1 c8 ⟨⟨by decide, by decide⟩, rfl⟩ (by decide) ?_
    refine g_aload_n X dX11_count_132 rfl 0 rfl ?_
    refine fg_X11_19 X dX11_count_133 ?_
    refine fg_X11_90 X dX11_count_136 ?_
    refine g_ifne (tgt := 146) X dX11_count_139 (by decide) h (fun h => ?_) (fun h => ?_)
    · refine g_aload_n X dX11_count_146 rfl 0 rfl ?_
      refine fg_X11_28 X dX11_count_147 ?_
      refine fg_X11_180 X aff_59 dX11_count_150 ?_
      refine g_iconst (v := 0) X dX11_count_153 (by decide) ?_
      refine g_iald X (af_ia3 aff_59) dX11_count_154 h (fun h => ?_)
      exact g_iret X hQ dX11_count_155 h
    · refine g_iconst (v := (-1)) X dX11_count_142 (by decide) ?_
      refine g_goto (tgt := 155) X dX11_count_143 (by decide) ?_
      exact g_iret X hQ dX11_count_155 h
  by_cases c9 : v1 = 9
  · have h := h.2.2.2.2.2.2.2.2.2.1 c9
    refine g_tabI (tgt := 156) X dX11_count_1 c9 ⟨⟨by decide, by decide⟩, rfl⟩ (by decide) ?_
    refine g_aload_n X dX11_count_156 rfl 0 rfl ?_
    refine fg_X11_19 X dX11_count_157 ?_
    refine fg_X11_90 X dX11_count_160 ?_
    refine g_ifne (tgt := 170) X dX11_count_163 (by decide) h (fun h => ?_) (fun h => ?_)
    · refine g_aload_n X dX11_count_170 rfl 0 rfl ?_
      refine fg_X11_28 X dX11_count_171 ?_
      refine fg_X11_180 X aff_59 dX11_count_174 ?_
      refine g_iconst (v := 1) X dX11_count_177 (by decide) ?_
      refine g_iald X (af_ia3 aff_59) dX11_count_178 h (fun h => ?_)
      exact g_iret X hQ dX11_count_179 h
    · refine g_iconst (v := (-1)) X dX11_count_166 (by decide) ?_
      refine g_goto (tgt := 179) X dX11_count_167 (by decide) ?_
      exact g_iret X hQ dX11_count_179 h
  by_cases c10 : v1 = 10
  · have h := h.2.2.2.2.2.2.2.2.2.2.1 c10
    refine g_tabI (tgt := 180) X dX11_count_1 c10 ⟨⟨by decide, by decide⟩, rfl⟩ (by decide) ?_
    refine g_aload_n X dX11_count_180 rfl 0 rfl ?_
    refine fg_X11_28 X dX11_count_181 ?_
    refine fg_X11_232 X aff_59 dX11_count_184 ?_
    exact g_iret X hQ dX11_count_187 h
  by_cases c11 : v1 = 11
  · have h := h.2.2.2.2.2.2.2.2.2.2.2.1 c11
    refine g_tabI (tgt := 188) X dX11_count_1 c11 ⟨⟨by decide, by decide⟩, rfl⟩ (by decide) ?_
    refine g_aload_n X dX11_count_188 rfl 0 rfl ?_
    refine fg_X11_10 X dX11_count_189 ?_
    refine fg_X11_71 X dX11_count_192 ?_
    exact g_iret X hQ dX11_count_195 h
  by_cases c12 : v1 = 12
  · have h := h.2.2.2.2.2.2.2.2.2.2.2.2.1 c12
    refine g_tabI (tgt := 196) X dX11_count_1 c12 ⟨⟨by decide, by decide⟩, rfl⟩ (by decide) ?_
    refine g_aload_n X dX11_count_196 rfl 0 rfl ?_
    refine fg_X11_63 X dX11_count_197 ?_
    exact g_iret X hQ dX11_count_200 h
  have h := h.2.2.2.2.2.2.2.2.2.2.2.2.2 c0 c1 c2 c3 c4 c5 c6 c7 c8 c9 c10 c11 c12
  refine g_tabO (tgt := 201) X dX11_count_1 (by have e0 := lv_neT (a := 0) c0 (by decide); have e1 := lv_neT (a := 1) c1 (by decide); have e2 := lv_neT (a := 2) c2 (by decide); have e3 := lv_neT (a := 3) c3 (by decide); have e4 := lv_neT (a := 4) c4 (by decide); have e5 := lv_neT (a := 5) c5 (by decide); have e6 := lv_neT (a := 6) c6 (by decide); have e7 := lv_neT (a := 7) c7 (by decide); have e8 := lv_neT (a := 8) c8 (by decide); have e9 := lv_neT (a := 9) c9 (by decide); have e10 := lv_neT (a := 10) c10 (by decide); have e11 := lv_neT (a := 11) c11 (by decide); have e12 := lv_neT (a := 12) c12 (by decide); omega) (by decide) ?_
  refine g_bipush (v := (-102)) X dX11_count_201 (by decide) ?_
  exact g_iret X hQ dX11_count_203 h
theorem cl_X11_295 {E : Ek} {x : MC} {cc : ByteArray} {nL hm pc : Nat} {M : Mem} {lv : List (Nat × Value)} {st : List Value} (X : Cx E x cc nL RX11 hm) {v1 : Int32} {Post : Int32 → Mem → Prop} (hr : 2 < hm) (hW : (st.map fun v => v.category).sum ≤ 8) (hd : decode cc pc = .ok (.invokevirtual 295, 3)) (h : wp_X11_count Post M v1) (kk : ∀ r M1, Post r M1 → G E x M1 (pc + 3) lv (.int r :: st)) : G E x M pc lv (.int v1 :: .ref (ad E 0) :: st) := k_I (fun hP hS hL => run_V X (w_X11_count E (xl x)  h) cw_X11_count m494 m495 m496 (⟨by decide, fun E f h => ⟨_, _, _, rfl, rfl, rfl⟩⟩ : OC 0 RX11) hr rfl hd hW hP hS hL) kk
theorem cw_X11_mix : CW yX11_mix cX11_mix 3 (some .long) 2 := ⟨m464, m10, Nat.le_of_ble_eq_true rfl, by decide +kernel⟩
def wp_X11_mix (Post : Int64 → Mem → Prop) (M : Mem) (v0 : Int64) (v2 : Int32) : Prop :=
 Post (((31 : Int64) * v0) + (v2.toInt64)) M
theorem w_X11_mix (E : Ek) (l : Launch) {v0 : Int64} {v2 : Int32} {M : Mem} {Post : Int64 → Mem → Prop} (h : wp_X11_mix Post M v0 v2) : ctL E l yX11_mix cX11_mix 3 (some .long) 1 [.long v0, .int v2] M Post := by
  refine ct_of (by decide) (Nat.le_of_ble_eq_true rfl) (fun x X hQ => ?_)
  change G E x M 0 [(0, .long v0), (2, .int v2)] []
  refine g_ldc2 X dX11_mix_0 m463 ?_
  refine g_lload_n X dX11_mix_3 rfl 0 rfl ?_
  refine g_lmul X dX11_mix_4 ?_
  refine g_iload_n X dX11_mix_5 rfl 1 rfl ?_
  refine g_i2l X dX11_mix_6 ?_
  refine g_ladd X dX11_mix_7 ?_
  exact g_lret X hQ dX11_mix_8 h
theorem cl_X11_276 {E : Ek} {x : MC} {cc : ByteArray} {nL hm pc : Nat} {M : Mem} {lv : List (Nat × Value)} {st : List Value} (X : Cx E x cc nL RX11 hm) {v0 : Int64} {v2 : Int32} {Post : Int64 → Mem → Prop} (hr : 1 < hm) (hW : (st.map fun v => v.category).sum ≤ 8) (hd : decode cc pc = .ok (.invokestatic 276, 3)) (h : wp_X11_mix Post M v0 v2) (kk : ∀ r M1, Post r M1 → G E x M1 (pc + 3) lv (.long r :: st)) : G E x M pc lv (.int v2 :: .long v0 :: st) := k_L (fun hP hS hL => run_S X (w_X11_mix E (xl x)  h) cw_X11_mix m468 m469 hr rfl hd hW hP hS hL) kk
theorem cw_X11_mixPerson : CW yX11_mixPerson cX11_mixPerson 7 (some .long) 2 := ⟨m473, m10, Nat.le_of_ble_eq_true rfl, by decide +kernel⟩
def wp_X11_mixPerson_b36 (Post : Int64 → Mem → Prop) (v1 : Int64) (v3 : Int32) (P6 : Mem → Int64 → Int32 → Prop) (P36 : Mem → Int64 → Int32 → Prop) (M : Mem) (v4 : Int64) (v6 : Int32) : Prop :=
 ((rd M 3 0) ≤ v6 →
  wp_X5_search (fun M7 =>
   wp_X11_mix (fun r8 M9 =>
    wp_X5_doorAt (fun r10 M11 =>
     wp_X11_mix (fun r12 M13 =>
      wp_X5_doorAt (fun r14 M15 =>
       wp_X11_mix (fun r16 M17 =>
        Post r16 M17) M15 r12 r14) M13 1 2) M11 r8 r10) M9 0 2) M7 v4 (rd M7 19 4)) M 59 v3 2) ∧
 (¬ (rd M 3 0) ≤ v6 →
  wp_X11_way (fun r18 M19 =>
   wp_X11_mix (fun r20 M21 =>
    wp_X11_way (fun r22 M23 =>
     wp_X11_mix (fun r24 M25 =>
      ∀ x6_26 : Int32, x6_26 = v6 + 1 →
      P36 M25 r24 x6_26) M23 r20 r22) M21 v3 v6 10) M19 v4 r18) M v3 v6 0)
def wp_X11_mixPerson_b6 (Post : Int64 → Mem → Prop) (v1 : Int64) (v3 : Int32) (P6 : Mem → Int64 → Int32 → Prop) (P36 : Mem → Int64 → Int32 → Prop) (M : Mem) (v4 : Int64) (v6 : Int32) : Prop :=
 (8 < v6 →
  P36 M v4 0) ∧
 (¬ 8 < v6 →
  wp_X11_person (fun r1 M2 =>
   wp_X11_mix (fun r3 M4 =>
    ∀ x6_5 : Int32, x6_5 = v6 + 1 →
    P6 M4 r3 x6_5) M2 v4 r1) M v3 v6)
def wp_X11_mixPerson (Post : Int64 → Mem → Prop) (M : Mem) (v1 : Int64) (v3 : Int32) : Prop :=
 ∀ (P6 : Mem → Int64 → Int32 → Prop) (P36 : Mem → Int64 → Int32 → Prop) ,
  (∀ (M : Mem) (v4 : Int64) (v6 : Int32), wp_X11_mixPerson_b6 Post v1 v3 P6 P36 M v4 v6 → P6 M v4 v6) →
  (∀ (M : Mem) (v4 : Int64) (v6 : Int32), wp_X11_mixPerson_b36 Post v1 v3 P6 P36 M v4 v6 → P36 M v4 v6) →
 P6 M v1 0
theorem k_X11_mixPerson_b36 {E : Ek} {x : MC} (X : Cx E x cX11_mixPerson 7 RX11 13) {Post : Int64 → Mem → Prop} (hQ : QL E x Post (some .long)) {v1 : Int64} {v3 : Int32} {M : Mem} {v4 : Int64} {v6 : Int32} (h : wp_X11_mixPerson_b36 Post v1 v3 (fun M v4 v6 => G E x M 6 [(0, .ref (ad E 0)), (3, .int v3), (4, .long v4), (6, .int v6)] []) (fun M v4 v6 => G E x M 36 [(0, .ref (ad E 0)), (3, .int v3), (4, .long v4), (6, .int v6)] []) M v4 v6) : G E x M 36 [(0, .ref (ad E 0)), (3, .int v3), (4, .long v4), (6, .int v6)] [] := by
  refine g_iload X dX11_mixPerson_36 3 rfl ?_
  refine g_aload_n X dX11_mixPerson_38 rfl 0 rfl ?_
  refine fg_X11_19 X dX11_mixPerson_39 ?_
  refine fg_X11_255 X dX11_mixPerson_42 ?_
  refine g_icmpge (tgt := 85) X dX11_mixPerson_45 (by decide) h (fun h => ?_) (fun h => ?_)
  · refine g_aload_n X dX11_mixPerson_85 rfl 0 rfl ?_
    refine fg_X11_48 X dX11_mixPerson_86 ?_
    refine g_aload_n X dX11_mixPerson_89 rfl 0 rfl ?_
    refine fg_X11_28 X dX11_mixPerson_90 ?_
    refine g_iload_n X dX11_mixPerson_93 rfl 1 rfl ?_
    refine g_iconst (v := 2) X dX11_mixPerson_94 (by decide) ?_
    refine cl_X11_201 X aff_59 (by decide) (Nat.le_of_ble_eq_true rfl) dX11_mixPerson_95 h (fun M7 h => ?_)
    refine g_lload X dX11_mixPerson_98 2 rfl ?_
    refine g_aload_n X dX11_mixPerson_100 rfl 0 rfl ?_
    refine fg_X11_48 X dX11_mixPerson_101 ?_
    refine fg_X11_205 X dX11_mixPerson_104 ?_
    refine cl_X11_276 X (by decide) (Nat.le_of_ble_eq_true rfl) dX11_mixPerson_107 h (fun r8 M9 h => ?_)
    refine g_lstore (lv' := [(0, .ref (ad E 0)), (3, .int v3), (4, .long r8), (6, .int v6)]) X dX11_mixPerson_110 (Nat.le_of_ble_eq_true rfl) rfl rfl rfl ?_
    refine g_lload X dX11_mixPerson_112 2 rfl ?_
    refine g_aload_n X dX11_mixPerson_114 rfl 0 rfl ?_
    refine fg_X11_48 X dX11_mixPerson_115 ?_
    refine g_iconst (v := 0) X dX11_mixPerson_118 (by decide) ?_
    refine g_iconst (v := 2) X dX11_mixPerson_119 (by decide) ?_
    refine cl_X11_208 X (by decide) (Nat.le_of_ble_eq_true rfl) dX11_mixPerson_120 h (fun r10 M11 h => ?_)
    refine cl_X11_276 X (by decide) (Nat.le_of_ble_eq_true rfl) dX11_mixPerson_123 h (fun r12 M13 h => ?_)
    refine g_lstore (lv' := [(0, .ref (ad E 0)), (3, .int v3), (4, .long r12), (6, .int v6)]) X dX11_mixPerson_126 (Nat.le_of_ble_eq_true rfl) rfl rfl rfl ?_
    refine g_lload X dX11_mixPerson_128 2 rfl ?_
    refine g_aload_n X dX11_mixPerson_130 rfl 0 rfl ?_
    refine fg_X11_48 X dX11_mixPerson_131 ?_
    refine g_iconst (v := 1) X dX11_mixPerson_134 (by decide) ?_
    refine g_iconst (v := 2) X dX11_mixPerson_135 (by decide) ?_
    refine cl_X11_208 X (by decide) (Nat.le_of_ble_eq_true rfl) dX11_mixPerson_136 h (fun r14 M15 h => ?_)
    refine cl_X11_276 X (by decide) (Nat.le_of_ble_eq_true rfl) dX11_mixPerson_139 h (fun r16 M17 h => ?_)
    exact g_lret X hQ dX11_mixPerson_142 h
  · refine g_lload X dX11_mixPerson_48 2 rfl ?_
    refine g_aload_n X dX11_mixPerson_50 rfl 0 rfl ?_
    refine g_iload_n X dX11_mixPerson_51 rfl 1 rfl ?_
    refine g_iload X dX11_mixPerson_52 3 rfl ?_
    refine g_iconst (v := 0) X dX11_mixPerson_54 (by decide) ?_
    refine cl_X11_301 X (by decide) (Nat.le_of_ble_eq_true rfl) dX11_mixPerson_55 h (fun r18 M19 h => ?_)
    refine cl_X11_276 X (by decide) (Nat.le_of_ble_eq_true rfl) dX11_mixPerson_58 h (fun r20 M21 h => ?_)
    refine g_lstore (lv' := [(0, .ref (ad E 0)), (3, .int v3), (4, .long r20), (6, .int v6)]) X dX11_mixPerson_61 (Nat.le_of_ble_eq_true rfl) rfl rfl rfl ?_
    refine g_lload X dX11_mixPerson_63 2 rfl ?_
    refine g_aload_n X dX11_mixPerson_65 rfl 0 rfl ?_
    refine g_iload_n X dX11_mixPerson_66 rfl 1 rfl ?_
    refine g_iload X dX11_mixPerson_67 3 rfl ?_
    refine g_bipush (v := 10) X dX11_mixPerson_69 (by decide) ?_
    refine cl_X11_301 X (by decide) (Nat.le_of_ble_eq_true rfl) dX11_mixPerson_71 h (fun r22 M23 h => ?_)
    refine cl_X11_276 X (by decide) (Nat.le_of_ble_eq_true rfl) dX11_mixPerson_74 h (fun r24 M25 h => ?_)
    refine g_lstore (lv' := [(0, .ref (ad E 0)), (3, .int v3), (4, .long r24), (6, .int v6)]) X dX11_mixPerson_77 (Nat.le_of_ble_eq_true rfl) rfl rfl rfl ?_
    refine g_iinc (w := 1) X dX11_mixPerson_79 3 rfl (by decide) (Nat.le_of_ble_eq_true rfl) rfl (fun x6_26 => [(0, .ref (ad E 0)), (3, .int v3), (4, .long r24), (6, .int x6_26)]) (fun _ => rfl) h (fun x6_26 h => ?_)
    refine g_goto (tgt := 36) X dX11_mixPerson_82 (by decide) ?_
    exact h
theorem k_X11_mixPerson_b6 {E : Ek} {x : MC} (X : Cx E x cX11_mixPerson 7 RX11 13) {Post : Int64 → Mem → Prop} (hQ : QL E x Post (some .long)) {v1 : Int64} {v3 : Int32} {M : Mem} {v4 : Int64} {v6 : Int32} (h : wp_X11_mixPerson_b6 Post v1 v3 (fun M v4 v6 => G E x M 6 [(0, .ref (ad E 0)), (3, .int v3), (4, .long v4), (6, .int v6)] []) (fun M v4 v6 => G E x M 36 [(0, .ref (ad E 0)), (3, .int v3), (4, .long v4), (6, .int v6)] []) M v4 v6) : G E x M 6 [(0, .ref (ad E 0)), (3, .int v3), (4, .long v4), (6, .int v6)] [] := by
  refine g_iload X dX11_mixPerson_6 3 rfl ?_
  refine g_bipush (v := 8) X dX11_mixPerson_8 (by decide) ?_
  refine g_icmpgt (tgt := 33) X dX11_mixPerson_10 (by decide) h (fun h => ?_) (fun h => ?_)
  · refine g_iconst (v := 0) X dX11_mixPerson_33 (by decide) ?_
    refine g_istore (lv' := [(0, .ref (ad E 0)), (3, .int v3), (4, .long v4), (6, .int 0)]) X dX11_mixPerson_34 (Nat.le_of_ble_eq_true rfl) rfl rfl ?_
    exact h
  · refine g_lload X dX11_mixPerson_13 2 rfl ?_
    refine g_aload_n X dX11_mixPerson_15 rfl 0 rfl ?_
    refine g_iload_n X dX11_mixPerson_16 rfl 1 rfl ?_
    refine g_iload X dX11_mixPerson_17 3 rfl ?_
    refine cl_X11_298 X (by decide) (Nat.le_of_ble_eq_true rfl) dX11_mixPerson_19 h (fun r1 M2 h => ?_)
    refine cl_X11_276 X (by decide) (Nat.le_of_ble_eq_true rfl) dX11_mixPerson_22 h (fun r3 M4 h => ?_)
    refine g_lstore (lv' := [(0, .ref (ad E 0)), (3, .int v3), (4, .long r3), (6, .int v6)]) X dX11_mixPerson_25 (Nat.le_of_ble_eq_true rfl) rfl rfl rfl ?_
    refine g_iinc (w := 1) X dX11_mixPerson_27 3 rfl (by decide) (Nat.le_of_ble_eq_true rfl) rfl (fun x6_5 => [(0, .ref (ad E 0)), (3, .int v3), (4, .long r3), (6, .int x6_5)]) (fun _ => rfl) h (fun x6_5 h => ?_)
    refine g_goto (tgt := 6) X dX11_mixPerson_30 (by decide) ?_
    exact h
theorem w_X11_mixPerson (E : Ek) (l : Launch) {v1 : Int64} {v3 : Int32} {M : Mem} {Post : Int64 → Mem → Prop} (h : wp_X11_mixPerson Post M v1 v3) : ctL E l yX11_mixPerson cX11_mixPerson 7 (some .long) 13 [.ref (ad E 0), .long v1, .int v3] M Post := by
  refine ct_of (by decide) (Nat.le_of_ble_eq_true rfl) (fun x X hQ => ?_)
  have h := h (fun M v4 v6 => G E x M 6 [(0, .ref (ad E 0)), (3, .int v3), (4, .long v4), (6, .int v6)] []) (fun M v4 v6 => G E x M 36 [(0, .ref (ad E 0)), (3, .int v3), (4, .long v4), (6, .int v6)] []) (fun M v4 v6 h => k_X11_mixPerson_b6 X hQ  h) (fun M v4 v6 h => k_X11_mixPerson_b36 X hQ  h)
  change G E x M 0 [(0, .ref (ad E 0)), (1, .long v1), (3, .int v3)] []
  refine g_lload_n X dX11_mixPerson_0 rfl 1 rfl ?_
  refine g_lstore (lv' := [(0, .ref (ad E 0)), (1, .long v1), (3, .int v3), (4, .long v1)]) X dX11_mixPerson_1 (Nat.le_of_ble_eq_true rfl) rfl rfl rfl ?_
  refine g_iconst (v := 0) X dX11_mixPerson_3 (by decide) ?_
  refine g_istore (lv' := [(0, .ref (ad E 0)), (1, .long v1), (3, .int v3), (4, .long v1), (6, .int 0)]) X dX11_mixPerson_4 (Nat.le_of_ble_eq_true rfl) rfl rfl ?_
  exact g_sub [0, 2, 3, 4] rfl h
theorem cl_X11_269 {E : Ek} {x : MC} {cc : ByteArray} {nL hm pc : Nat} {M : Mem} {lv : List (Nat × Value)} {st : List Value} (X : Cx E x cc nL RX11 hm) {v1 : Int64} {v3 : Int32} {Post : Int64 → Mem → Prop} (hr : 13 < hm) (hW : (st.map fun v => v.category).sum ≤ 8) (hd : decode cc pc = .ok (.invokevirtual 269, 3)) (h : wp_X11_mixPerson Post M v1 v3) (kk : ∀ r M1, Post r M1 → G E x M1 (pc + 3) lv (.long r :: st)) : G E x M pc lv (.int v3 :: .long v1 :: .ref (ad E 0) :: st) := k_L (fun hP hS hL => run_V X (w_X11_mixPerson E (xl x)  h) cw_X11_mixPerson m475 m476 m477 (⟨by decide, fun E f h => ⟨_, _, _, rfl, rfl, rfl⟩⟩ : OC 0 RX11) hr rfl hd hW hP hS hL) kk
theorem cw_X11_digest : CW yX11_digest cX11_digest 5 (some .long) 0 := ⟨m497, m10, Nat.le_of_ble_eq_true rfl, by decide +kernel⟩
def wp_X11_digest_b232 (Post : Int64 → Mem → Prop) (P6 : Mem → Int64 → Int32 → Prop) (P32 : Mem → Int64 → Int32 → Prop) (P46 : Mem → Int64 → Int32 → Int32 → Prop) (P78 : Mem → Int64 → Int32 → Prop) (P92 : Mem → Int64 → Int32 → Int32 → Prop) (P124 : Mem → Int64 → Int32 → Prop) (P199 : Mem → Int64 → Int32 → Prop) (P232 : Mem → Int64 → Int32 → Prop) (M : Mem) (v1 : Int64) (v3 : Int32) : Prop :=
 (12 < v3 →
  Post v1 M) ∧
 (¬ 12 < v3 →
  wp_X11_count (fun r37 M38 =>
   wp_X11_mix (fun r39 M40 =>
    ∀ x3_41 : Int32, x3_41 = v3 + 1 →
    P232 M40 r39 x3_41) M38 v1 r37) M v3)
def wp_X11_digest_b199 (Post : Int64 → Mem → Prop) (P6 : Mem → Int64 → Int32 → Prop) (P32 : Mem → Int64 → Int32 → Prop) (P46 : Mem → Int64 → Int32 → Int32 → Prop) (P78 : Mem → Int64 → Int32 → Prop) (P92 : Mem → Int64 → Int32 → Int32 → Prop) (P124 : Mem → Int64 → Int32 → Prop) (P199 : Mem → Int64 → Int32 → Prop) (P232 : Mem → Int64 → Int32 → Prop) (M : Mem) (v1 : Int64) (v3 : Int32) : Prop :=
 ((rd M 1 1) ≤ v3 →
  P232 M v1 0) ∧
 (¬ (rd M 1 1) ≤ v3 →
  vp_in v3 64 ∧
  wp_X11_mix (fun r34 M35 =>
   ∀ x3_36 : Int32, x3_36 = v3 + 1 →
   P199 M35 r34 x3_36) M v1 (rd M 2 v3.toNatClampNeg))
def wp_X11_digest_b124 (Post : Int64 → Mem → Prop) (P6 : Mem → Int64 → Int32 → Prop) (P32 : Mem → Int64 → Int32 → Prop) (P46 : Mem → Int64 → Int32 → Int32 → Prop) (P78 : Mem → Int64 → Int32 → Prop) (P92 : Mem → Int64 → Int32 → Int32 → Prop) (P124 : Mem → Int64 → Int32 → Prop) (P199 : Mem → Int64 → Int32 → Prop) (P232 : Mem → Int64 → Int32 → Prop) (M : Mem) (v1 : Int64) (v3 : Int32) : Prop :=
 ((rd M 3 0) ≤ v3 →
  ((rd M 3 2) ≤ 0 →
   P199 M v1 0) ∧
  (¬ (rd M 3 2) ≤ 0 →
   wp_X11_sound (fun r17 M18 =>
    wp_X11_mix (fun r19 M20 =>
     wp_X11_met (fun r21 M22 =>
      wp_X11_mix (fun r23 M24 =>
       wp_X11_met (fun r25 M26 =>
        wp_X11_mix (fun r27 M28 =>
         P199 M28 r27 0) M26 r23 r25) M24 0 1 2 1) M22 r19 r21) M20 0 1 2 0) M18 v1 r17) M )) ∧
 (¬ (rd M 3 0) ≤ v3 →
  wp_X11_cancel (fun r29 M30 =>
   wp_X11_mix (fun r31 M32 =>
    ∀ x3_33 : Int32, x3_33 = v3 + 1 →
    P124 M32 r31 x3_33) M30 v1 r29) M v3 0)
def wp_X11_digest_b92 (Post : Int64 → Mem → Prop) (P6 : Mem → Int64 → Int32 → Prop) (P32 : Mem → Int64 → Int32 → Prop) (P46 : Mem → Int64 → Int32 → Int32 → Prop) (P78 : Mem → Int64 → Int32 → Prop) (P92 : Mem → Int64 → Int32 → Int32 → Prop) (P124 : Mem → Int64 → Int32 → Prop) (P199 : Mem → Int64 → Int32 → Prop) (P232 : Mem → Int64 → Int32 → Prop) (M : Mem) (v1 : Int64) (v3 : Int32) (v4 : Int32) : Prop :=
 (5 < v4 →
  ∀ x3_11 : Int32, x3_11 = v3 + 1 →
  P78 M v1 x3_11) ∧
 (¬ 5 < v4 →
  wp_X11_debt (fun r12 M13 =>
   wp_X11_mix (fun r14 M15 =>
    ∀ x4_16 : Int32, x4_16 = v4 + 1 →
    P92 M15 r14 v3 x4_16) M13 v1 r12) M v3 v4)
def wp_X11_digest_b78 (Post : Int64 → Mem → Prop) (P6 : Mem → Int64 → Int32 → Prop) (P32 : Mem → Int64 → Int32 → Prop) (P46 : Mem → Int64 → Int32 → Int32 → Prop) (P78 : Mem → Int64 → Int32 → Prop) (P92 : Mem → Int64 → Int32 → Int32 → Prop) (P124 : Mem → Int64 → Int32 → Prop) (P199 : Mem → Int64 → Int32 → Prop) (P232 : Mem → Int64 → Int32 → Prop) (M : Mem) (v1 : Int64) (v3 : Int32) : Prop :=
 ((rd M 3 3) ≤ v3 →
  P124 M v1 0) ∧
 (¬ (rd M 3 3) ≤ v3 →
  P92 M v1 v3 0)
def wp_X11_digest_b46 (Post : Int64 → Mem → Prop) (P6 : Mem → Int64 → Int32 → Prop) (P32 : Mem → Int64 → Int32 → Prop) (P46 : Mem → Int64 → Int32 → Int32 → Prop) (P78 : Mem → Int64 → Int32 → Prop) (P92 : Mem → Int64 → Int32 → Int32 → Prop) (P124 : Mem → Int64 → Int32 → Prop) (P199 : Mem → Int64 → Int32 → Prop) (P232 : Mem → Int64 → Int32 → Prop) (M : Mem) (v1 : Int64) (v3 : Int32) (v4 : Int32) : Prop :=
 (2 < v4 →
  ∀ x3_5 : Int32, x3_5 = v3 + 1 →
  P32 M v1 x3_5) ∧
 (¬ 2 < v4 →
  wp_X11_door (fun r6 M7 =>
   wp_X11_mix (fun r8 M9 =>
    ∀ x4_10 : Int32, x4_10 = v4 + 1 →
    P46 M9 r8 v3 x4_10) M7 v1 r6) M v3 v4)
def wp_X11_digest_b32 (Post : Int64 → Mem → Prop) (P6 : Mem → Int64 → Int32 → Prop) (P32 : Mem → Int64 → Int32 → Prop) (P46 : Mem → Int64 → Int32 → Int32 → Prop) (P78 : Mem → Int64 → Int32 → Prop) (P92 : Mem → Int64 → Int32 → Int32 → Prop) (P124 : Mem → Int64 → Int32 → Prop) (P199 : Mem → Int64 → Int32 → Prop) (P232 : Mem → Int64 → Int32 → Prop) (M : Mem) (v1 : Int64) (v3 : Int32) : Prop :=
 ((rd M 3 1) ≤ v3 →
  P78 M v1 0) ∧
 (¬ (rd M 3 1) ≤ v3 →
  P46 M v1 v3 0)
def wp_X11_digest_b6 (Post : Int64 → Mem → Prop) (P6 : Mem → Int64 → Int32 → Prop) (P32 : Mem → Int64 → Int32 → Prop) (P46 : Mem → Int64 → Int32 → Int32 → Prop) (P78 : Mem → Int64 → Int32 → Prop) (P92 : Mem → Int64 → Int32 → Int32 → Prop) (P124 : Mem → Int64 → Int32 → Prop) (P199 : Mem → Int64 → Int32 → Prop) (P232 : Mem → Int64 → Int32 → Prop) (M : Mem) (v1 : Int64) (v3 : Int32) : Prop :=
 ((rd M 3 2) ≤ v3 →
  P32 M v1 0) ∧
 (¬ (rd M 3 2) ≤ v3 →
  wp_X11_mixPerson (fun r2 M3 =>
   ∀ x3_4 : Int32, x3_4 = v3 + 1 →
   P6 M3 r2 x3_4) M v1 v3)
def wp_X11_digest (Post : Int64 → Mem → Prop) (M : Mem) : Prop :=
 ∀ (P6 : Mem → Int64 → Int32 → Prop) (P32 : Mem → Int64 → Int32 → Prop) (P46 : Mem → Int64 → Int32 → Int32 → Prop) (P78 : Mem → Int64 → Int32 → Prop) (P92 : Mem → Int64 → Int32 → Int32 → Prop) (P124 : Mem → Int64 → Int32 → Prop) (P199 : Mem → Int64 → Int32 → Prop) (P232 : Mem → Int64 → Int32 → Prop) ,
  (∀ (M : Mem) (v1 : Int64) (v3 : Int32), wp_X11_digest_b6 Post P6 P32 P46 P78 P92 P124 P199 P232 M v1 v3 → P6 M v1 v3) →
  (∀ (M : Mem) (v1 : Int64) (v3 : Int32), wp_X11_digest_b32 Post P6 P32 P46 P78 P92 P124 P199 P232 M v1 v3 → P32 M v1 v3) →
  (∀ (M : Mem) (v1 : Int64) (v3 : Int32) (v4 : Int32), wp_X11_digest_b46 Post P6 P32 P46 P78 P92 P124 P199 P232 M v1 v3 v4 → P46 M v1 v3 v4) →
  (∀ (M : Mem) (v1 : Int64) (v3 : Int32), wp_X11_digest_b78 Post P6 P32 P46 P78 P92 P124 P199 P232 M v1 v3 → P78 M v1 v3) →
  (∀ (M : Mem) (v1 : Int64) (v3 : Int32) (v4 : Int32), wp_X11_digest_b92 Post P6 P32 P46 P78 P92 P124 P199 P232 M v1 v3 v4 → P92 M v1 v3 v4) →
  (∀ (M : Mem) (v1 : Int64) (v3 : Int32), wp_X11_digest_b124 Post P6 P32 P46 P78 P92 P124 P199 P232 M v1 v3 → P124 M v1 v3) →
  (∀ (M : Mem) (v1 : Int64) (v3 : Int32), wp_X11_digest_b199 Post P6 P32 P46 P78 P92 P124 P199 P232 M v1 v3 → P199 M v1 v3) →
  (∀ (M : Mem) (v1 : Int64) (v3 : Int32), wp_X11_digest_b232 Post P6 P32 P46 P78 P92 P124 P199 P232 M v1 v3 → P232 M v1 v3) →
 ∀ x1_1 : Int64, x1_1 = (1223 : Int64) →
 P6 M x1_1 0
theorem k_X11_digest_b232 {E : Ek} {x : MC} (X : Cx E x cX11_digest 5 RX11 14) {Post : Int64 → Mem → Prop} (hQ : QL E x Post (some .long)) {M : Mem} {v1 : Int64} {v3 : Int32} (h : wp_X11_digest_b232 Post (fun M v1 v3 => G E x M 6 [(0, .ref (ad E 0)), (1, .long v1), (3, .int v3)] []) (fun M v1 v3 => G E x M 32 [(0, .ref (ad E 0)), (1, .long v1), (3, .int v3)] []) (fun M v1 v3 v4 => G E x M 46 [(0, .ref (ad E 0)), (1, .long v1), (3, .int v3), (4, .int v4)] []) (fun M v1 v3 => G E x M 78 [(0, .ref (ad E 0)), (1, .long v1), (3, .int v3)] []) (fun M v1 v3 v4 => G E x M 92 [(0, .ref (ad E 0)), (1, .long v1), (3, .int v3), (4, .int v4)] []) (fun M v1 v3 => G E x M 124 [(0, .ref (ad E 0)), (1, .long v1), (3, .int v3)] []) (fun M v1 v3 => G E x M 199 [(0, .ref (ad E 0)), (1, .long v1), (3, .int v3)] []) (fun M v1 v3 => G E x M 232 [(0, .ref (ad E 0)), (1, .long v1), (3, .int v3)] []) M v1 v3) : G E x M 232 [(0, .ref (ad E 0)), (1, .long v1), (3, .int v3)] [] := by
  refine g_iload_n X dX11_digest_232 rfl 2 rfl ?_
  refine g_bipush (v := 12) X dX11_digest_233 (by decide) ?_
  refine g_icmpgt (tgt := 254) X dX11_digest_235 (by decide) h (fun h => ?_) (fun h => ?_)
  · refine g_lload_n X dX11_digest_254 rfl 1 rfl ?_
    exact g_lret X hQ dX11_digest_255 h
  · refine g_lload_n X dX11_digest_238 rfl 1 rfl ?_
    refine g_aload_n X dX11_digest_239 rfl 0 rfl ?_
    refine g_iload_n X dX11_digest_240 rfl 2 rfl ?_
    refine cl_X11_295 X (by decide) (Nat.le_of_ble_eq_true rfl) dX11_digest_241 h (fun r37 M38 h => ?_)
    refine cl_X11_276 X (by decide) (Nat.le_of_ble_eq_true rfl) dX11_digest_244 h (fun r39 M40 h => ?_)
    refine g_lstore_n (lv' := [(0, .ref (ad E 0)), (1, .long r39), (3, .int v3)]) X dX11_digest_247 rfl (Nat.le_of_ble_eq_true rfl) rfl rfl rfl ?_
    refine g_iinc (w := 1) X dX11_digest_248 2 rfl (by decide) (Nat.le_of_ble_eq_true rfl) rfl (fun x3_41 => [(0, .ref (ad E 0)), (1, .long r39), (3, .int x3_41)]) (fun _ => rfl) h (fun x3_41 h => ?_)
    refine g_goto (tgt := 232) X dX11_digest_251 (by decide) ?_
    exact h
theorem k_X11_digest_b199 {E : Ek} {x : MC} (X : Cx E x cX11_digest 5 RX11 14) {Post : Int64 → Mem → Prop} (hQ : QL E x Post (some .long)) {M : Mem} {v1 : Int64} {v3 : Int32} (h : wp_X11_digest_b199 Post (fun M v1 v3 => G E x M 6 [(0, .ref (ad E 0)), (1, .long v1), (3, .int v3)] []) (fun M v1 v3 => G E x M 32 [(0, .ref (ad E 0)), (1, .long v1), (3, .int v3)] []) (fun M v1 v3 v4 => G E x M 46 [(0, .ref (ad E 0)), (1, .long v1), (3, .int v3), (4, .int v4)] []) (fun M v1 v3 => G E x M 78 [(0, .ref (ad E 0)), (1, .long v1), (3, .int v3)] []) (fun M v1 v3 v4 => G E x M 92 [(0, .ref (ad E 0)), (1, .long v1), (3, .int v3), (4, .int v4)] []) (fun M v1 v3 => G E x M 124 [(0, .ref (ad E 0)), (1, .long v1), (3, .int v3)] []) (fun M v1 v3 => G E x M 199 [(0, .ref (ad E 0)), (1, .long v1), (3, .int v3)] []) (fun M v1 v3 => G E x M 232 [(0, .ref (ad E 0)), (1, .long v1), (3, .int v3)] []) M v1 v3) : G E x M 199 [(0, .ref (ad E 0)), (1, .long v1), (3, .int v3)] [] := by
  refine g_iload_n X dX11_digest_199 rfl 2 rfl ?_
  refine g_aload_n X dX11_digest_200 rfl 0 rfl ?_
  refine fg_X11_10 X dX11_digest_201 ?_
  refine fg_X11_71 X dX11_digest_204 ?_
  refine g_icmpge (tgt := 230) X dX11_digest_207 (by decide) h (fun h => ?_) (fun h => ?_)
  · refine g_iconst (v := 0) X dX11_digest_230 (by decide) ?_
    refine g_istore_n (lv' := [(0, .ref (ad E 0)), (1, .long v1), (3, .int 0)]) X dX11_digest_231 rfl (Nat.le_of_ble_eq_true rfl) rfl rfl ?_
    exact h
  · refine g_lload_n X dX11_digest_210 rfl 1 rfl ?_
    refine g_aload_n X dX11_digest_211 rfl 0 rfl ?_
    refine fg_X11_10 X dX11_digest_212 ?_
    refine fg_X11_292 X dX11_digest_215 ?_
    refine g_iload_n X dX11_digest_218 rfl 2 rfl ?_
    refine g_iald X ia_2 dX11_digest_219 h (fun h => ?_)
    refine cl_X11_276 X (by decide) (Nat.le_of_ble_eq_true rfl) dX11_digest_220 h (fun r34 M35 h => ?_)
    refine g_lstore_n (lv' := [(0, .ref (ad E 0)), (1, .long r34), (3, .int v3)]) X dX11_digest_223 rfl (Nat.le_of_ble_eq_true rfl) rfl rfl rfl ?_
    refine g_iinc (w := 1) X dX11_digest_224 2 rfl (by decide) (Nat.le_of_ble_eq_true rfl) rfl (fun x3_36 => [(0, .ref (ad E 0)), (1, .long r34), (3, .int x3_36)]) (fun _ => rfl) h (fun x3_36 h => ?_)
    refine g_goto (tgt := 199) X dX11_digest_227 (by decide) ?_
    exact h
theorem k_X11_digest_b124 {E : Ek} {x : MC} (X : Cx E x cX11_digest 5 RX11 14) {Post : Int64 → Mem → Prop} (hQ : QL E x Post (some .long)) {M : Mem} {v1 : Int64} {v3 : Int32} (h : wp_X11_digest_b124 Post (fun M v1 v3 => G E x M 6 [(0, .ref (ad E 0)), (1, .long v1), (3, .int v3)] []) (fun M v1 v3 => G E x M 32 [(0, .ref (ad E 0)), (1, .long v1), (3, .int v3)] []) (fun M v1 v3 v4 => G E x M 46 [(0, .ref (ad E 0)), (1, .long v1), (3, .int v3), (4, .int v4)] []) (fun M v1 v3 => G E x M 78 [(0, .ref (ad E 0)), (1, .long v1), (3, .int v3)] []) (fun M v1 v3 v4 => G E x M 92 [(0, .ref (ad E 0)), (1, .long v1), (3, .int v3), (4, .int v4)] []) (fun M v1 v3 => G E x M 124 [(0, .ref (ad E 0)), (1, .long v1), (3, .int v3)] []) (fun M v1 v3 => G E x M 199 [(0, .ref (ad E 0)), (1, .long v1), (3, .int v3)] []) (fun M v1 v3 => G E x M 232 [(0, .ref (ad E 0)), (1, .long v1), (3, .int v3)] []) M v1 v3) : G E x M 124 [(0, .ref (ad E 0)), (1, .long v1), (3, .int v3)] [] := by
  refine g_iload_n X dX11_digest_124 rfl 2 rfl ?_
  refine g_aload_n X dX11_digest_125 rfl 0 rfl ?_
  refine fg_X11_19 X dX11_digest_126 ?_
  refine fg_X11_255 X dX11_digest_129 ?_
  refine g_icmpge (tgt := 152) X dX11_digest_132 (by decide) h (fun h => ?_) (fun h => ?_)
  · refine g_aload_n X dX11_digest_152 rfl 0 rfl ?_
    refine fg_X11_19 X dX11_digest_153 ?_
    refine fg_X11_90 X dX11_digest_156 ?_
    refine g_ifle (tgt := 197) X dX11_digest_159 (by decide) h (fun h => ?_) (fun h => ?_)
    · refine g_iconst (v := 0) X dX11_digest_197 (by decide) ?_
      refine g_istore_n (lv' := [(0, .ref (ad E 0)), (1, .long v1), (3, .int 0)]) X dX11_digest_198 rfl (Nat.le_of_ble_eq_true rfl) rfl rfl ?_
      exact h
    · refine g_lload_n X dX11_digest_162 rfl 1 rfl ?_
      refine g_aload_n X dX11_digest_163 rfl 0 rfl ?_
      refine cl_X11_285 X (by decide) (Nat.le_of_ble_eq_true rfl) dX11_digest_164 h (fun r17 M18 h => ?_)
      refine cl_X11_276 X (by decide) (Nat.le_of_ble_eq_true rfl) dX11_digest_167 h (fun r19 M20 h => ?_)
      refine g_lstore_n (lv' := [(0, .ref (ad E 0)), (1, .long r19), (3, .int v3)]) X dX11_digest_170 rfl (Nat.le_of_ble_eq_true rfl) rfl rfl rfl ?_
      refine g_lload_n X dX11_digest_171 rfl 1 rfl ?_
      refine g_aload_n X dX11_digest_172 rfl 0 rfl ?_
      refine g_iconst (v := 0) X dX11_digest_173 (by decide) ?_
      refine g_iconst (v := 1) X dX11_digest_174 (by decide) ?_
      refine g_iconst (v := 2) X dX11_digest_175 (by decide) ?_
      refine g_iconst (v := 0) X dX11_digest_176 (by decide) ?_
      refine cl_X11_288 X (by decide) (Nat.le_of_ble_eq_true rfl) dX11_digest_177 h (fun r21 M22 h => ?_)
      refine cl_X11_276 X (by decide) (Nat.le_of_ble_eq_true rfl) dX11_digest_180 h (fun r23 M24 h => ?_)
      refine g_lstore_n (lv' := [(0, .ref (ad E 0)), (1, .long r23), (3, .int v3)]) X dX11_digest_183 rfl (Nat.le_of_ble_eq_true rfl) rfl rfl rfl ?_
      refine g_lload_n X dX11_digest_184 rfl 1 rfl ?_
      refine g_aload_n X dX11_digest_185 rfl 0 rfl ?_
      refine g_iconst (v := 0) X dX11_digest_186 (by decide) ?_
      refine g_iconst (v := 1) X dX11_digest_187 (by decide) ?_
      refine g_iconst (v := 2) X dX11_digest_188 (by decide) ?_
      refine g_iconst (v := 1) X dX11_digest_189 (by decide) ?_
      refine cl_X11_288 X (by decide) (Nat.le_of_ble_eq_true rfl) dX11_digest_190 h (fun r25 M26 h => ?_)
      refine cl_X11_276 X (by decide) (Nat.le_of_ble_eq_true rfl) dX11_digest_193 h (fun r27 M28 h => ?_)
      refine g_lstore_n (lv' := [(0, .ref (ad E 0)), (1, .long r27), (3, .int v3)]) X dX11_digest_196 rfl (Nat.le_of_ble_eq_true rfl) rfl rfl rfl ?_
      refine g_iconst (v := 0) X dX11_digest_197 (by decide) ?_
      refine g_istore_n (lv' := [(0, .ref (ad E 0)), (1, .long r27), (3, .int 0)]) X dX11_digest_198 rfl (Nat.le_of_ble_eq_true rfl) rfl rfl ?_
      exact h
  · refine g_lload_n X dX11_digest_135 rfl 1 rfl ?_
    refine g_aload_n X dX11_digest_136 rfl 0 rfl ?_
    refine g_iload_n X dX11_digest_137 rfl 2 rfl ?_
    refine g_iconst (v := 0) X dX11_digest_138 (by decide) ?_
    refine cl_X11_282 X (by decide) (Nat.le_of_ble_eq_true rfl) dX11_digest_139 h (fun r29 M30 h => ?_)
    refine cl_X11_276 X (by decide) (Nat.le_of_ble_eq_true rfl) dX11_digest_142 h (fun r31 M32 h => ?_)
    refine g_lstore_n (lv' := [(0, .ref (ad E 0)), (1, .long r31), (3, .int v3)]) X dX11_digest_145 rfl (Nat.le_of_ble_eq_true rfl) rfl rfl rfl ?_
    refine g_iinc (w := 1) X dX11_digest_146 2 rfl (by decide) (Nat.le_of_ble_eq_true rfl) rfl (fun x3_33 => [(0, .ref (ad E 0)), (1, .long r31), (3, .int x3_33)]) (fun _ => rfl) h (fun x3_33 h => ?_)
    refine g_goto (tgt := 124) X dX11_digest_149 (by decide) ?_
    exact h
theorem k_X11_digest_b92 {E : Ek} {x : MC} (X : Cx E x cX11_digest 5 RX11 14) {Post : Int64 → Mem → Prop} (hQ : QL E x Post (some .long)) {M : Mem} {v1 : Int64} {v3 : Int32} {v4 : Int32} (h : wp_X11_digest_b92 Post (fun M v1 v3 => G E x M 6 [(0, .ref (ad E 0)), (1, .long v1), (3, .int v3)] []) (fun M v1 v3 => G E x M 32 [(0, .ref (ad E 0)), (1, .long v1), (3, .int v3)] []) (fun M v1 v3 v4 => G E x M 46 [(0, .ref (ad E 0)), (1, .long v1), (3, .int v3), (4, .int v4)] []) (fun M v1 v3 => G E x M 78 [(0, .ref (ad E 0)), (1, .long v1), (3, .int v3)] []) (fun M v1 v3 v4 => G E x M 92 [(0, .ref (ad E 0)), (1, .long v1), (3, .int v3), (4, .int v4)] []) (fun M v1 v3 => G E x M 124 [(0, .ref (ad E 0)), (1, .long v1), (3, .int v3)] []) (fun M v1 v3 => G E x M 199 [(0, .ref (ad E 0)), (1, .long v1), (3, .int v3)] []) (fun M v1 v3 => G E x M 232 [(0, .ref (ad E 0)), (1, .long v1), (3, .int v3)] []) M v1 v3 v4) : G E x M 92 [(0, .ref (ad E 0)), (1, .long v1), (3, .int v3), (4, .int v4)] [] := by
  refine g_iload X dX11_digest_92 3 rfl ?_
  refine g_iconst (v := 5) X dX11_digest_94 (by decide) ?_
  refine g_icmpgt (tgt := 116) X dX11_digest_95 (by decide) h (fun h => ?_) (fun h => ?_)
  · refine g_iinc (w := 1) X dX11_digest_116 2 rfl (by decide) (Nat.le_of_ble_eq_true rfl) rfl (fun x3_11 => [(0, .ref (ad E 0)), (1, .long v1), (3, .int x3_11), (4, .int v4)]) (fun _ => rfl) h (fun x3_11 h => ?_)
    refine g_goto (tgt := 78) X dX11_digest_119 (by decide) ?_
    exact g_sub [0, 1, 2] rfl h
  · refine g_lload_n X dX11_digest_98 rfl 1 rfl ?_
    refine g_aload_n X dX11_digest_99 rfl 0 rfl ?_
    refine g_iload_n X dX11_digest_100 rfl 2 rfl ?_
    refine g_iload X dX11_digest_101 3 rfl ?_
    refine cl_X11_279 X (by decide) (Nat.le_of_ble_eq_true rfl) dX11_digest_103 h (fun r12 M13 h => ?_)
    refine cl_X11_276 X (by decide) (Nat.le_of_ble_eq_true rfl) dX11_digest_106 h (fun r14 M15 h => ?_)
    refine g_lstore_n (lv' := [(0, .ref (ad E 0)), (1, .long r14), (3, .int v3), (4, .int v4)]) X dX11_digest_109 rfl (Nat.le_of_ble_eq_true rfl) rfl rfl rfl ?_
    refine g_iinc (w := 1) X dX11_digest_110 3 rfl (by decide) (Nat.le_of_ble_eq_true rfl) rfl (fun x4_16 => [(0, .ref (ad E 0)), (1, .long r14), (3, .int v3), (4, .int x4_16)]) (fun _ => rfl) h (fun x4_16 h => ?_)
    refine g_goto (tgt := 92) X dX11_digest_113 (by decide) ?_
    exact h
theorem k_X11_digest_b78 {E : Ek} {x : MC} (X : Cx E x cX11_digest 5 RX11 14) {Post : Int64 → Mem → Prop} (hQ : QL E x Post (some .long)) {M : Mem} {v1 : Int64} {v3 : Int32} (h : wp_X11_digest_b78 Post (fun M v1 v3 => G E x M 6 [(0, .ref (ad E 0)), (1, .long v1), (3, .int v3)] []) (fun M v1 v3 => G E x M 32 [(0, .ref (ad E 0)), (1, .long v1), (3, .int v3)] []) (fun M v1 v3 v4 => G E x M 46 [(0, .ref (ad E 0)), (1, .long v1), (3, .int v3), (4, .int v4)] []) (fun M v1 v3 => G E x M 78 [(0, .ref (ad E 0)), (1, .long v1), (3, .int v3)] []) (fun M v1 v3 v4 => G E x M 92 [(0, .ref (ad E 0)), (1, .long v1), (3, .int v3), (4, .int v4)] []) (fun M v1 v3 => G E x M 124 [(0, .ref (ad E 0)), (1, .long v1), (3, .int v3)] []) (fun M v1 v3 => G E x M 199 [(0, .ref (ad E 0)), (1, .long v1), (3, .int v3)] []) (fun M v1 v3 => G E x M 232 [(0, .ref (ad E 0)), (1, .long v1), (3, .int v3)] []) M v1 v3) : G E x M 78 [(0, .ref (ad E 0)), (1, .long v1), (3, .int v3)] [] := by
  refine g_iload_n X dX11_digest_78 rfl 2 rfl ?_
  refine g_aload_n X dX11_digest_79 rfl 0 rfl ?_
  refine fg_X11_19 X dX11_digest_80 ?_
  refine fg_X11_258 X dX11_digest_83 ?_
  refine g_icmpge (tgt := 122) X dX11_digest_86 (by decide) h (fun h => ?_) (fun h => ?_)
  · refine g_iconst (v := 0) X dX11_digest_122 (by decide) ?_
    refine g_istore_n (lv' := [(0, .ref (ad E 0)), (1, .long v1), (3, .int 0)]) X dX11_digest_123 rfl (Nat.le_of_ble_eq_true rfl) rfl rfl ?_
    exact h
  · refine g_iconst (v := 0) X dX11_digest_89 (by decide) ?_
    refine g_istore (lv' := [(0, .ref (ad E 0)), (1, .long v1), (3, .int v3), (4, .int 0)]) X dX11_digest_90 (Nat.le_of_ble_eq_true rfl) rfl rfl ?_
    exact h
theorem k_X11_digest_b46 {E : Ek} {x : MC} (X : Cx E x cX11_digest 5 RX11 14) {Post : Int64 → Mem → Prop} (hQ : QL E x Post (some .long)) {M : Mem} {v1 : Int64} {v3 : Int32} {v4 : Int32} (h : wp_X11_digest_b46 Post (fun M v1 v3 => G E x M 6 [(0, .ref (ad E 0)), (1, .long v1), (3, .int v3)] []) (fun M v1 v3 => G E x M 32 [(0, .ref (ad E 0)), (1, .long v1), (3, .int v3)] []) (fun M v1 v3 v4 => G E x M 46 [(0, .ref (ad E 0)), (1, .long v1), (3, .int v3), (4, .int v4)] []) (fun M v1 v3 => G E x M 78 [(0, .ref (ad E 0)), (1, .long v1), (3, .int v3)] []) (fun M v1 v3 v4 => G E x M 92 [(0, .ref (ad E 0)), (1, .long v1), (3, .int v3), (4, .int v4)] []) (fun M v1 v3 => G E x M 124 [(0, .ref (ad E 0)), (1, .long v1), (3, .int v3)] []) (fun M v1 v3 => G E x M 199 [(0, .ref (ad E 0)), (1, .long v1), (3, .int v3)] []) (fun M v1 v3 => G E x M 232 [(0, .ref (ad E 0)), (1, .long v1), (3, .int v3)] []) M v1 v3 v4) : G E x M 46 [(0, .ref (ad E 0)), (1, .long v1), (3, .int v3), (4, .int v4)] [] := by
  refine g_iload X dX11_digest_46 3 rfl ?_
  refine g_iconst (v := 2) X dX11_digest_48 (by decide) ?_
  refine g_icmpgt (tgt := 70) X dX11_digest_49 (by decide) h (fun h => ?_) (fun h => ?_)
  · refine g_iinc (w := 1) X dX11_digest_70 2 rfl (by decide) (Nat.le_of_ble_eq_true rfl) rfl (fun x3_5 => [(0, .ref (ad E 0)), (1, .long v1), (3, .int x3_5), (4, .int v4)]) (fun _ => rfl) h (fun x3_5 h => ?_)
    refine g_goto (tgt := 32) X dX11_digest_73 (by decide) ?_
    exact g_sub [0, 1, 2] rfl h
  · refine g_lload_n X dX11_digest_52 rfl 1 rfl ?_
    refine g_aload_n X dX11_digest_53 rfl 0 rfl ?_
    refine g_iload_n X dX11_digest_54 rfl 2 rfl ?_
    refine g_iload X dX11_digest_55 3 rfl ?_
    refine cl_X11_273 X (by decide) (Nat.le_of_ble_eq_true rfl) dX11_digest_57 h (fun r6 M7 h => ?_)
    refine cl_X11_276 X (by decide) (Nat.le_of_ble_eq_true rfl) dX11_digest_60 h (fun r8 M9 h => ?_)
    refine g_lstore_n (lv' := [(0, .ref (ad E 0)), (1, .long r8), (3, .int v3), (4, .int v4)]) X dX11_digest_63 rfl (Nat.le_of_ble_eq_true rfl) rfl rfl rfl ?_
    refine g_iinc (w := 1) X dX11_digest_64 3 rfl (by decide) (Nat.le_of_ble_eq_true rfl) rfl (fun x4_10 => [(0, .ref (ad E 0)), (1, .long r8), (3, .int v3), (4, .int x4_10)]) (fun _ => rfl) h (fun x4_10 h => ?_)
    refine g_goto (tgt := 46) X dX11_digest_67 (by decide) ?_
    exact h
theorem k_X11_digest_b32 {E : Ek} {x : MC} (X : Cx E x cX11_digest 5 RX11 14) {Post : Int64 → Mem → Prop} (hQ : QL E x Post (some .long)) {M : Mem} {v1 : Int64} {v3 : Int32} (h : wp_X11_digest_b32 Post (fun M v1 v3 => G E x M 6 [(0, .ref (ad E 0)), (1, .long v1), (3, .int v3)] []) (fun M v1 v3 => G E x M 32 [(0, .ref (ad E 0)), (1, .long v1), (3, .int v3)] []) (fun M v1 v3 v4 => G E x M 46 [(0, .ref (ad E 0)), (1, .long v1), (3, .int v3), (4, .int v4)] []) (fun M v1 v3 => G E x M 78 [(0, .ref (ad E 0)), (1, .long v1), (3, .int v3)] []) (fun M v1 v3 v4 => G E x M 92 [(0, .ref (ad E 0)), (1, .long v1), (3, .int v3), (4, .int v4)] []) (fun M v1 v3 => G E x M 124 [(0, .ref (ad E 0)), (1, .long v1), (3, .int v3)] []) (fun M v1 v3 => G E x M 199 [(0, .ref (ad E 0)), (1, .long v1), (3, .int v3)] []) (fun M v1 v3 => G E x M 232 [(0, .ref (ad E 0)), (1, .long v1), (3, .int v3)] []) M v1 v3) : G E x M 32 [(0, .ref (ad E 0)), (1, .long v1), (3, .int v3)] [] := by
  refine g_iload_n X dX11_digest_32 rfl 2 rfl ?_
  refine g_aload_n X dX11_digest_33 rfl 0 rfl ?_
  refine fg_X11_19 X dX11_digest_34 ?_
  refine fg_X11_241 X dX11_digest_37 ?_
  refine g_icmpge (tgt := 76) X dX11_digest_40 (by decide) h (fun h => ?_) (fun h => ?_)
  · refine g_iconst (v := 0) X dX11_digest_76 (by decide) ?_
    refine g_istore_n (lv' := [(0, .ref (ad E 0)), (1, .long v1), (3, .int 0)]) X dX11_digest_77 rfl (Nat.le_of_ble_eq_true rfl) rfl rfl ?_
    exact h
  · refine g_iconst (v := 0) X dX11_digest_43 (by decide) ?_
    refine g_istore (lv' := [(0, .ref (ad E 0)), (1, .long v1), (3, .int v3), (4, .int 0)]) X dX11_digest_44 (Nat.le_of_ble_eq_true rfl) rfl rfl ?_
    exact h
theorem k_X11_digest_b6 {E : Ek} {x : MC} (X : Cx E x cX11_digest 5 RX11 14) {Post : Int64 → Mem → Prop} (hQ : QL E x Post (some .long)) {M : Mem} {v1 : Int64} {v3 : Int32} (h : wp_X11_digest_b6 Post (fun M v1 v3 => G E x M 6 [(0, .ref (ad E 0)), (1, .long v1), (3, .int v3)] []) (fun M v1 v3 => G E x M 32 [(0, .ref (ad E 0)), (1, .long v1), (3, .int v3)] []) (fun M v1 v3 v4 => G E x M 46 [(0, .ref (ad E 0)), (1, .long v1), (3, .int v3), (4, .int v4)] []) (fun M v1 v3 => G E x M 78 [(0, .ref (ad E 0)), (1, .long v1), (3, .int v3)] []) (fun M v1 v3 v4 => G E x M 92 [(0, .ref (ad E 0)), (1, .long v1), (3, .int v3), (4, .int v4)] []) (fun M v1 v3 => G E x M 124 [(0, .ref (ad E 0)), (1, .long v1), (3, .int v3)] []) (fun M v1 v3 => G E x M 199 [(0, .ref (ad E 0)), (1, .long v1), (3, .int v3)] []) (fun M v1 v3 => G E x M 232 [(0, .ref (ad E 0)), (1, .long v1), (3, .int v3)] []) M v1 v3) : G E x M 6 [(0, .ref (ad E 0)), (1, .long v1), (3, .int v3)] [] := by
  refine g_iload_n X dX11_digest_6 rfl 2 rfl ?_
  refine g_aload_n X dX11_digest_7 rfl 0 rfl ?_
  refine fg_X11_19 X dX11_digest_8 ?_
  refine fg_X11_90 X dX11_digest_11 ?_
  refine g_icmpge (tgt := 30) X dX11_digest_14 (by decide) h (fun h => ?_) (fun h => ?_)
  · refine g_iconst (v := 0) X dX11_digest_30 (by decide) ?_
    refine g_istore_n (lv' := [(0, .ref (ad E 0)), (1, .long v1), (3, .int 0)]) X dX11_digest_31 rfl (Nat.le_of_ble_eq_true rfl) rfl rfl ?_
    exact h
  · refine g_aload_n X dX11_digest_17 rfl 0 rfl ?_
    refine g_lload_n X dX11_digest_18 rfl 1 rfl ?_
    refine g_iload_n X dX11_digest_19 rfl 2 rfl ?_
    refine cl_X11_269 X (by decide) (Nat.le_of_ble_eq_true rfl) dX11_digest_20 h (fun r2 M3 h => ?_)
    refine g_lstore_n (lv' := [(0, .ref (ad E 0)), (1, .long r2), (3, .int v3)]) X dX11_digest_23 rfl (Nat.le_of_ble_eq_true rfl) rfl rfl rfl ?_
    refine g_iinc (w := 1) X dX11_digest_24 2 rfl (by decide) (Nat.le_of_ble_eq_true rfl) rfl (fun x3_4 => [(0, .ref (ad E 0)), (1, .long r2), (3, .int x3_4)]) (fun _ => rfl) h (fun x3_4 h => ?_)
    refine g_goto (tgt := 6) X dX11_digest_27 (by decide) ?_
    exact h
theorem w_X11_digest (E : Ek) (l : Launch) {M : Mem} {Post : Int64 → Mem → Prop} (h : wp_X11_digest Post M ) : ctL E l yX11_digest cX11_digest 5 (some .long) 14 [.ref (ad E 0)] M Post := by
  refine ct_of (by decide) (Nat.le_of_ble_eq_true rfl) (fun x X hQ => ?_)
  have h := h (fun M v1 v3 => G E x M 6 [(0, .ref (ad E 0)), (1, .long v1), (3, .int v3)] []) (fun M v1 v3 => G E x M 32 [(0, .ref (ad E 0)), (1, .long v1), (3, .int v3)] []) (fun M v1 v3 v4 => G E x M 46 [(0, .ref (ad E 0)), (1, .long v1), (3, .int v3), (4, .int v4)] []) (fun M v1 v3 => G E x M 78 [(0, .ref (ad E 0)), (1, .long v1), (3, .int v3)] []) (fun M v1 v3 v4 => G E x M 92 [(0, .ref (ad E 0)), (1, .long v1), (3, .int v3), (4, .int v4)] []) (fun M v1 v3 => G E x M 124 [(0, .ref (ad E 0)), (1, .long v1), (3, .int v3)] []) (fun M v1 v3 => G E x M 199 [(0, .ref (ad E 0)), (1, .long v1), (3, .int v3)] []) (fun M v1 v3 => G E x M 232 [(0, .ref (ad E 0)), (1, .long v1), (3, .int v3)] []) (fun M v1 v3 h => k_X11_digest_b6 X hQ  h) (fun M v1 v3 h => k_X11_digest_b32 X hQ  h) (fun M v1 v3 v4 h => k_X11_digest_b46 X hQ  h) (fun M v1 v3 h => k_X11_digest_b78 X hQ  h) (fun M v1 v3 v4 h => k_X11_digest_b92 X hQ  h) (fun M v1 v3 h => k_X11_digest_b124 X hQ  h) (fun M v1 v3 h => k_X11_digest_b199 X hQ  h) (fun M v1 v3 h => k_X11_digest_b232 X hQ  h)
  change G E x M 0 [(0, .ref (ad E 0))] []
  refine g_ldc2 X dX11_digest_0 m474 ?_
  refine g_nml h (fun x1_1 h => ?_)
  refine g_lstore_n (lv' := [(0, .ref (ad E 0)), (1, .long x1_1)]) X dX11_digest_3 rfl (Nat.le_of_ble_eq_true rfl) rfl rfl rfl ?_
  refine g_iconst (v := 0) X dX11_digest_4 (by decide) ?_
  refine g_istore_n (lv' := [(0, .ref (ad E 0)), (1, .long x1_1), (3, .int 0)]) X dX11_digest_5 rfl (Nat.le_of_ble_eq_true rfl) rfl rfl ?_
  exact h
theorem cw_X12_in : CW yX12_in cX12_in 6 (some .boolean) 3 := ⟨m498, m499, Nat.le_of_ble_eq_true rfl, by decide +kernel⟩
def wp_X12_in (Post : Int32 → Mem → Prop) (M : Mem) (v0 : Int64) (v2 : Int64) (v4 : Int64) : Prop :=
 ((lg_cmp v0 v2) < 0 →
  Post 0 M) ∧
 (¬ (lg_cmp v0 v2) < 0 →
  (0 < (lg_cmp v0 v4) →
   Post 0 M) ∧
  (¬ 0 < (lg_cmp v0 v4) →
   Post 1 M))
theorem w_X12_in (E : Ek) (l : Launch) {v0 : Int64} {v2 : Int64} {v4 : Int64} {M : Mem} {Post : Int32 → Mem → Prop} (h : wp_X12_in Post M v0 v2 v4) : ctI E l yX12_in cX12_in 6 (some .boolean) 1 [.long v0, .long v2, .long v4] M Post := by
  refine ct_of (by decide) (Nat.le_of_ble_eq_true rfl) (fun x X hQ => ?_)
  change G E x M 0 [(0, .long v0), (2, .long v2), (4, .long v4)] []
  refine g_lload_n X dX12_in_0 rfl 0 rfl ?_
  refine g_lload_n X dX12_in_1 rfl 1 rfl ?_
  refine g_lcmp X dX12_in_2 ?_
  refine g_iflt (tgt := 17) X dX12_in_3 (by decide) h (fun h => ?_) (fun h => ?_)
  · refine g_iconst (v := 0) X dX12_in_17 (by decide) ?_
    exact g_zret X hQ dX12_in_18 ⟨Or.inl rfl, h⟩
  · refine g_lload_n X dX12_in_6 rfl 0 rfl ?_
    refine g_lload X dX12_in_7 2 rfl ?_
    refine g_lcmp X dX12_in_9 ?_
    refine g_ifgt (tgt := 17) X dX12_in_10 (by decide) h (fun h => ?_) (fun h => ?_)
    · refine g_iconst (v := 0) X dX12_in_17 (by decide) ?_
      exact g_zret X hQ dX12_in_18 ⟨Or.inl rfl, h⟩
    · refine g_iconst (v := 1) X dX12_in_13 (by decide) ?_
      refine g_goto (tgt := 18) X dX12_in_14 (by decide) ?_
      exact g_zret X hQ dX12_in_18 ⟨Or.inr rfl, h⟩
theorem cl_X12_103 {E : Ek} {x : MC} {cc : ByteArray} {nL hm pc : Nat} {M : Mem} {lv : List (Nat × Value)} {st : List Value} (X : Cx E x cc nL RX12 hm) {v0 : Int64} {v2 : Int64} {v4 : Int64} {Post : Int32 → Mem → Prop} (hr : 1 < hm) (hW : (st.map fun v => v.category).sum ≤ 8) (hd : decode cc pc = .ok (.invokestatic 103, 3)) (h : wp_X12_in Post M v0 v2 v4) (kk : ∀ r M1, Post r M1 → G E x M1 (pc + 3) lv (.int r :: st)) : G E x M pc lv (.long v4 :: .long v2 :: .long v0 :: st) := k_I (fun hP hS hL => run_S X (w_X12_in E (xl x)  h) cw_X12_in m502 m503 hr rfl hd hW hP hS hL) kk
theorem cw_X12_copy : CW yX12_copy cX12_copy 3 none 2 := ⟨m500, m499, Nat.le_of_ble_eq_true rfl, by decide +kernel⟩
def wp_X12_copy_b2 (Post : Mem → Prop) (q0 n0 : Nat) (q1 n1 : Nat) (P2 : Mem → Int32 → Prop) (M : Mem) (v2 : Int32) : Prop :=
 ((Int32.ofNat n0) ≤ v2 →
  Post M) ∧
 (¬ (Int32.ofNat n0) ≤ v2 →
  vp_in v2 n0 ∧
  vp_in v2 n1 ∧
  ∀ M1 : Mem, M1 = wr M q1 v2.toNatClampNeg (rd M q0 v2.toNatClampNeg) →
  ∀ x2_2 : Int32, x2_2 = v2 + 1 →
  P2 M1 x2_2)
def wp_X12_copy (Post : Mem → Prop) (M : Mem) (q0 n0 : Nat) (q1 n1 : Nat) : Prop :=
 ∀ (P2 : Mem → Int32 → Prop) ,
  (∀ (M : Mem) (v2 : Int32), wp_X12_copy_b2 Post q0 n0 q1 n1 P2 M v2 → P2 M v2) →
 P2 M 0
theorem k_X12_copy_b2 {E : Ek} {x : MC} (X : Cx E x cX12_copy 3 RX12 1) {Post : Mem → Prop} (hQ : QV E x Post none) {q0 n0 : Nat} {q1 n1 : Nat} (hq0 : IA q0 n0) (hq1 : IA q1 n1) {M : Mem} {v2 : Int32} (h : wp_X12_copy_b2 Post q0 n0 q1 n1 (fun M v2 => G E x M 2 [(0, .ref (ad E q0)), (1, .ref (ad E q1)), (2, .int v2)] []) M v2) : G E x M 2 [(0, .ref (ad E q0)), (1, .ref (ad E q1)), (2, .int v2)] [] := by
  refine g_iload_n X dX12_copy_2 rfl 2 rfl ?_
  refine g_aload_n X dX12_copy_3 rfl 0 rfl ?_
  refine g_alen X hq0 dX12_copy_4 rfl ?_
  refine g_icmpge (tgt := 20) X dX12_copy_5 (by decide) h (fun h => ?_) (fun h => ?_)
  · exact g_vret X hQ dX12_copy_20 h
  · refine g_aload_n X dX12_copy_8 rfl 1 rfl ?_
    refine g_iload_n X dX12_copy_9 rfl 2 rfl ?_
    refine g_aload_n X dX12_copy_10 rfl 0 rfl ?_
    refine g_iload_n X dX12_copy_11 rfl 2 rfl ?_
    refine g_iald X hq0 dX12_copy_12 h (fun h => ?_)
    refine g_iast X hq1 dX12_copy_13 h (fun M1 h => ?_)
    refine g_iinc (w := 1) X dX12_copy_14 2 rfl (by decide) (Nat.le_of_ble_eq_true rfl) rfl (fun x2_2 => [(0, .ref (ad E q0)), (1, .ref (ad E q1)), (2, .int x2_2)]) (fun _ => rfl) h (fun x2_2 h => ?_)
    refine g_goto (tgt := 2) X dX12_copy_17 (by decide) ?_
    exact h
theorem w_X12_copy (E : Ek) (l : Launch) {q0 n0 : Nat} {q1 n1 : Nat} (hq0 : IA q0 n0) (hq1 : IA q1 n1) {M : Mem} {Post : Mem → Prop} (h : wp_X12_copy Post M q0 n0 q1 n1) : ctV E l yX12_copy cX12_copy 3 none 1 [.ref (ad E q0), .ref (ad E q1)] M Post := by
  refine ct_of (by decide) (Nat.le_of_ble_eq_true rfl) (fun x X hQ => ?_)
  have h := h (fun M v2 => G E x M 2 [(0, .ref (ad E q0)), (1, .ref (ad E q1)), (2, .int v2)] []) (fun M v2 h => k_X12_copy_b2 X hQ hq0 hq1 h)
  change G E x M 0 [(0, .ref (ad E q0)), (1, .ref (ad E q1))] []
  refine g_iconst (v := 0) X dX12_copy_0 (by decide) ?_
  refine g_istore_n (lv' := [(0, .ref (ad E q0)), (1, .ref (ad E q1)), (2, .int 0)]) X dX12_copy_1 rfl (Nat.le_of_ble_eq_true rfl) rfl rfl ?_
  exact h
theorem cl_X12_177 {E : Ek} {x : MC} {cc : ByteArray} {nL hm pc : Nat} {M : Mem} {lv : List (Nat × Value)} {st : List Value} (X : Cx E x cc nL RX12 hm) {q0 n0 : Nat} {q1 n1 : Nat} (hq0 : IA q0 n0) (hq1 : IA q1 n1) {Post : Mem → Prop} (hr : 1 < hm) (hW : (st.map fun v => v.category).sum ≤ 8) (hd : decode cc pc = .ok (.invokestatic 177, 3)) (h : wp_X12_copy Post M q0 n0 q1 n1) (kk : ∀ M1, Post M1 → G E x M1 (pc + 3) lv st) : G E x M pc lv (.ref (ad E q1) :: .ref (ad E q0) :: st) := k_V (fun hP hS hL => run_S X (w_X12_copy E (xl x) hq0 hq1 h) cw_X12_copy m578 m579 hr rfl hd hW hP hS hL) kk
theorem cw_X12_letter : CW yX12_letter cX12_letter 2 (some .int) 1 := ⟨m506, m499, Nat.le_of_ble_eq_true rfl, by decide +kernel⟩
def wp_X12_letter (Post : Int32 → Mem → Prop) (M : Mem) (v1 : Int32) : Prop :=
 wp_X12_in (fun r1 M2 =>
  (¬ r1 = 0 →
   (¬ (rd M2 29 1) = 64 →
    vp_in (rd M2 29 1) 64 ∧
    ∀ M3 : Mem, M3 = wr M2 30 (rd M2 29 1).toNatClampNeg v1 →
    ∀ M4 : Mem, M4 = wr M3 29 1 ((rd M3 29 1) + 1) →
    Post (rd M4 29 1) M4) ∧
   ((rd M2 29 1) = 64 →
    Post (-104) M2)) ∧
  (r1 = 0 →
   Post (-102) M2)) M (v1.toInt64) (1 : Int64) (126 : Int64)
theorem w_X12_letter (E : Ek) (l : Launch) {v1 : Int32} {M : Mem} {Post : Int32 → Mem → Prop} (h : wp_X12_letter Post M v1) : ctI E l yX12_letter cX12_letter 2 (some .int) 2 [.ref (ad E 29), .int v1] M Post := by
  refine ct_of (by decide) (Nat.le_of_ble_eq_true rfl) (fun x X hQ => ?_)
  change G E x M 0 [(0, .ref (ad E 29)), (1, .int v1)] []
  refine g_iload_n X dX12_letter_0 rfl 1 rfl ?_
  refine g_i2l X dX12_letter_1 ?_
  refine g_lconst (v := 1) X dX12_letter_2 (by decide) ?_
  refine g_ldc2 X dX12_letter_3 m501 ?_
  refine cl_X12_103 X (by decide) (Nat.le_of_ble_eq_true rfl) dX12_letter_6 h (fun r1 M2 h => ?_)
  refine g_ifne (tgt := 15) X dX12_letter_9 (by decide) h (fun h => ?_) (fun h => ?_)
  · refine g_aload_n X dX12_letter_15 rfl 0 rfl ?_
    refine fg_X12_107 X dX12_letter_16 ?_
    refine g_bipush (v := 64) X dX12_letter_19 (by decide) ?_
    refine g_icmpne (tgt := 27) X dX12_letter_21 (by decide) h (fun h => ?_) (fun h => ?_)
    · refine g_aload_n X dX12_letter_27 rfl 0 rfl ?_
      refine fg_X12_7 X dX12_letter_28 ?_
      refine g_aload_n X dX12_letter_31 rfl 0 rfl ?_
      refine fg_X12_107 X dX12_letter_32 ?_
      refine g_iload_n X dX12_letter_35 rfl 1 rfl ?_
      refine g_iast X ia_30 dX12_letter_36 h (fun M3 h => ?_)
      refine g_aload_n X dX12_letter_37 rfl 0 rfl ?_
      refine g_dup X dX12_letter_38 rfl ?_
      refine fg_X12_107 X dX12_letter_39 ?_
      refine g_iconst (v := 1) X dX12_letter_42 (by decide) ?_
      refine g_iadd X dX12_letter_43 ?_
      refine fp_X12_107 X dX12_letter_44 h (fun M4 h => ?_)
      refine g_aload_n X dX12_letter_47 rfl 0 rfl ?_
      refine fg_X12_107 X dX12_letter_48 ?_
      exact g_iret X hQ dX12_letter_51 h
    · refine g_bipush (v := (-104)) X dX12_letter_24 (by decide) ?_
      exact g_iret X hQ dX12_letter_26 h
  · refine g_bipush (v := (-102)) X dX12_letter_12 (by decide) ?_
    exact g_iret X hQ dX12_letter_14 h
theorem cw_X12_blank : CW yX12_blank cX12_blank 2 (some .int) 0 := ⟨m507, m499, Nat.le_of_ble_eq_true rfl, by decide +kernel⟩
def wp_X12_blank (Post : Int32 → Mem → Prop) (M : Mem) : Prop :=
 ∀ x1_1 : Int32, x1_1 = rd M 29 1 →
 ∀ M2 : Mem, M2 = wr M 29 1 0 →
 Post x1_1 M2
theorem w_X12_blank (E : Ek) (l : Launch) {M : Mem} {Post : Int32 → Mem → Prop} (h : wp_X12_blank Post M ) : ctI E l yX12_blank cX12_blank 2 (some .int) 1 [.ref (ad E 29)] M Post := by
  refine ct_of (by decide) (Nat.le_of_ble_eq_true rfl) (fun x X hQ => ?_)
  change G E x M 0 [(0, .ref (ad E 29))] []
  refine g_aload_n X dX12_blank_0 rfl 0 rfl ?_
  refine fg_X12_107 X dX12_blank_1 ?_
  refine g_nm h (fun x1_1 h => ?_)
  refine g_istore_n (lv' := [(0, .ref (ad E 29)), (1, .int x1_1)]) X dX12_blank_4 rfl (Nat.le_of_ble_eq_true rfl) rfl rfl ?_
  refine g_aload_n X dX12_blank_5 rfl 0 rfl ?_
  refine g_iconst (v := 0) X dX12_blank_6 (by decide) ?_
  refine fp_X12_107 X dX12_blank_7 h (fun M2 h => ?_)
  refine g_iload_n X dX12_blank_10 rfl 1 rfl ?_
  exact g_iret X hQ dX12_blank_11 h
theorem cw_X12_kindBy : CW yX12_kindBy cX12_kindBy 1 (some .int) 1 := ⟨m508, m499, Nat.le_of_ble_eq_true rfl, by decide +kernel⟩
def wp_X12_kindBy (Post : Int32 → Mem → Prop) (M : Mem) (v0 : Int32) : Prop :=
 (v0 = 98 →
  Post 2 M) ∧
 (v0 = 100 →
  Post 4 M) ∧
 (v0 = 104 →
  Post 3 M) ∧
 (v0 = 112 →
  Post 0 M) ∧
 (v0 = 114 →
  Post 1 M) ∧
 (¬ v0 = 98 → ¬ v0 = 100 → ¬ v0 = 104 → ¬ v0 = 112 → ¬ v0 = 114 → 
  Post (-1) M)
theorem w_X12_kindBy (E : Ek) (l : Launch) {v0 : Int32} {M : Mem} {Post : Int32 → Mem → Prop} (h : wp_X12_kindBy Post M v0) : ctI E l yX12_kindBy cX12_kindBy 1 (some .int) 1 [.int v0] M Post := by
  refine ct_of (by decide) (Nat.le_of_ble_eq_true rfl) (fun x X hQ => ?_)
  change G E x M 0 [(0, .int v0)] []
  refine g_iload_n X dX12_kindBy_0 rfl 0 rfl ?_
  by_cases c0 : v0 = 98
  · have h := h.1 c0
    refine g_look (off := 55) (tgt := 56) X dX12_kindBy_1 (by decide) (by first | (rw [c0]; done) | (rw [c0]; decide)) (by decide) ?_
    refine g_iconst (v := 2) X dX12_kindBy_56 (by decide) ?_
    exact g_iret X hQ dX12_kindBy_57 h
  by_cases c1 : v0 = 100
  · have h := h.2.1 c1
    refine g_look (off := 59) (tgt := 60) X dX12_kindBy_1 (by decide) (by first | (rw [c1]; done) | (rw [c1]; decide)) (by decide) ?_
    refine g_iconst (v := 4) X dX12_kindBy_60 (by decide) ?_
    exact g_iret X hQ dX12_kindBy_61 h
  by_cases c2 : v0 = 104
  · have h := h.2.2.1 c2
    refine g_look (off := 57) (tgt := 58) X dX12_kindBy_1 (by decide) (by first | (rw [c2]; done) | (rw [c2]; decide)) (by decide) ?_
    refine g_iconst (v := 3) X dX12_kindBy_58 (by decide) ?_
    exact g_iret X hQ dX12_kindBy_59 h
  by_cases c3 : v0 = 112
  · have h := h.2.2.2.1 c3
    refine g_look (off := 51) (tgt := 52) X dX12_kindBy_1 (by decide) (by first | (rw [c3]; done) | (rw [c3]; decide)) (by decide) ?_
    refine g_iconst (v := 0) X dX12_kindBy_52 (by decide) ?_
    exact g_iret X hQ dX12_kindBy_53 h
  by_cases c4 : v0 = 114
  · have h := h.2.2.2.2.1 c4
    refine g_look (off := 53) (tgt := 54) X dX12_kindBy_1 (by decide) (by first | (rw [c4]; done) | (rw [c4]; decide)) (by decide) ?_
    refine g_iconst (v := 1) X dX12_kindBy_54 (by decide) ?_
    exact g_iret X hQ dX12_kindBy_55 h
  have h := h.2.2.2.2.2 c0 c1 c2 c3 c4
  refine g_look (off := 61) (tgt := 62) X dX12_kindBy_1 (by decide) (by first | (rw [lv_osw (k := 98) c0 (by decide)]; rw [lv_osw (k := 100) c1 (by decide)]; rw [lv_osw (k := 104) c2 (by decide)]; rw [lv_osw (k := 112) c3 (by decide)]; rw [lv_osw (k := 114) c4 (by decide)]; done) | (rw [lv_osw (k := 98) c0 (by decide)]; rw [lv_osw (k := 100) c1 (by decide)]; rw [lv_osw (k := 104) c2 (by decide)]; rw [lv_osw (k := 112) c3 (by decide)]; rw [lv_osw (k := 114) c4 (by decide)]; rfl)) (by decide) ?_
  refine g_iconst (v := (-1)) X dX12_kindBy_62 (by decide) ?_
  exact g_iret X hQ dX12_kindBy_63 h
theorem cl_X12_119 {E : Ek} {x : MC} {cc : ByteArray} {nL hm pc : Nat} {M : Mem} {lv : List (Nat × Value)} {st : List Value} (X : Cx E x cc nL RX12 hm) {v0 : Int32} {Post : Int32 → Mem → Prop} (hr : 1 < hm) (hW : (st.map fun v => v.category).sum ≤ 8) (hd : decode cc pc = .ok (.invokestatic 119, 3)) (h : wp_X12_kindBy Post M v0) (kk : ∀ r M1, Post r M1 → G E x M1 (pc + 3) lv (.int r :: st)) : G E x M pc lv (.int v0 :: st) := k_I (fun hP hS hL => run_S X (w_X12_kindBy E (xl x)  h) cw_X12_kindBy m517 m518 hr rfl hd hW hP hS hL) kk
theorem cw_X12_lockBy : CW yX12_lockBy cX12_lockBy 1 (some .int) 1 := ⟨m509, m499, Nat.le_of_ble_eq_true rfl, by decide +kernel⟩
def wp_X12_lockBy (Post : Int32 → Mem → Prop) (M : Mem) (v0 : Int32) : Prop :=
 (¬ v0 = 111 →
  Post (v0 - 97) M) ∧
 (v0 = 111 →
  Post (-1) M)
theorem w_X12_lockBy (E : Ek) (l : Launch) {v0 : Int32} {M : Mem} {Post : Int32 → Mem → Prop} (h : wp_X12_lockBy Post M v0) : ctI E l yX12_lockBy cX12_lockBy 1 (some .int) 1 [.int v0] M Post := by
  refine ct_of (by decide) (Nat.le_of_ble_eq_true rfl) (fun x X hQ => ?_)
  change G E x M 0 [(0, .int v0)] []
  refine g_iload_n X dX12_lockBy_0 rfl 0 rfl ?_
  refine g_bipush (v := 111) X dX12_lockBy_1 (by decide) ?_
  refine g_icmpne (tgt := 10) X dX12_lockBy_3 (by decide) h (fun h => ?_) (fun h => ?_)
  · refine g_iload_n X dX12_lockBy_10 rfl 0 rfl ?_
    refine g_bipush (v := 97) X dX12_lockBy_11 (by decide) ?_
    refine g_isub X dX12_lockBy_13 ?_
    exact g_iret X hQ dX12_lockBy_14 h
  · refine g_iconst (v := (-1)) X dX12_lockBy_6 (by decide) ?_
    refine g_goto (tgt := 14) X dX12_lockBy_7 (by decide) ?_
    exact g_iret X hQ dX12_lockBy_14 h
theorem cl_X12_165 {E : Ek} {x : MC} {cc : ByteArray} {nL hm pc : Nat} {M : Mem} {lv : List (Nat × Value)} {st : List Value} (X : Cx E x cc nL RX12 hm) {v0 : Int32} {Post : Int32 → Mem → Prop} (hr : 1 < hm) (hW : (st.map fun v => v.category).sum ≤ 8) (hd : decode cc pc = .ok (.invokestatic 165, 3)) (h : wp_X12_lockBy Post M v0) (kk : ∀ r M1, Post r M1 → G E x M1 (pc + 3) lv (.int r :: st)) : G E x M pc lv (.int v0 :: st) := k_I (fun hP hS hL => run_S X (w_X12_lockBy E (xl x)  h) cw_X12_lockBy m555 m556 hr rfl hd hW hP hS hL) kk
theorem cw_X12_isRoomLetter : CW yX12_isRoomLetter cX12_isRoomLetter 2 (some .boolean) 1 := ⟨m511, m499, Nat.le_of_ble_eq_true rfl, by decide +kernel⟩
def wp_X12_isRoomLetter (Post : Int32 → Mem → Prop) (M : Mem) (v1 : Int32) : Prop :=
 vp_in 0 64 ∧
 wp_X12_in (fun r1 M2 =>
  zb r1 ∧ Post r1 M2) M (v1.toInt64) (48 : Int64) (((rd M 30 (0 : Int32).toNatClampNeg) - 1).toInt64)
theorem w_X12_isRoomLetter (E : Ek) (l : Launch) {v1 : Int32} {M : Mem} {Post : Int32 → Mem → Prop} (h : wp_X12_isRoomLetter Post M v1) : ctI E l yX12_isRoomLetter cX12_isRoomLetter 2 (some .boolean) 2 [.ref (ad E 29), .int v1] M Post := by
  refine ct_of (by decide) (Nat.le_of_ble_eq_true rfl) (fun x X hQ => ?_)
  change G E x M 0 [(0, .ref (ad E 29)), (1, .int v1)] []
  refine g_iload_n X dX12_isRoomLetter_0 rfl 1 rfl ?_
  refine g_i2l X dX12_isRoomLetter_1 ?_
  refine g_ldc2 X dX12_isRoomLetter_2 m510 ?_
  refine g_aload_n X dX12_isRoomLetter_5 rfl 0 rfl ?_
  refine fg_X12_7 X dX12_isRoomLetter_6 ?_
  refine g_iconst (v := 0) X dX12_isRoomLetter_9 (by decide) ?_
  refine g_iald X ia_30 dX12_isRoomLetter_10 h (fun h => ?_)
  refine g_iconst (v := 1) X dX12_isRoomLetter_11 (by decide) ?_
  refine g_isub X dX12_isRoomLetter_12 ?_
  refine g_i2l X dX12_isRoomLetter_13 ?_
  refine cl_X12_103 X (by decide) (Nat.le_of_ble_eq_true rfl) dX12_isRoomLetter_14 h (fun r1 M2 h => ?_)
  exact g_zret X hQ dX12_isRoomLetter_17 h
theorem cl_X12_112 {E : Ek} {x : MC} {cc : ByteArray} {nL hm pc : Nat} {M : Mem} {lv : List (Nat × Value)} {st : List Value} (X : Cx E x cc nL RX12 hm) {v1 : Int32} {Post : Int32 → Mem → Prop} (hr : 2 < hm) (hW : (st.map fun v => v.category).sum ≤ 8) (hd : decode cc pc = .ok (.invokevirtual 112, 3)) (h : wp_X12_isRoomLetter Post M v1) (kk : ∀ r M1, Post r M1 → G E x M1 (pc + 3) lv (.int r :: st)) : G E x M pc lv (.int v1 :: .ref (ad E 29) :: st) := k_I (fun hP hS hL => run_V X (w_X12_isRoomLetter E (xl x)  h) cw_X12_isRoomLetter m512 m513 m514 (⟨by decide, fun E f h => ⟨_, _, _, rfl, rfl, rfl⟩⟩ : OC 29 RX12) hr rfl hd hW hP hS hL) kk
