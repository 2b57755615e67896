/-- the law's own standing facts -/
def LX (E : Ek) (x : MC) (b L : Nat) (ys : Nat → Int32) : Prop := Cx E x cL_law 4 RL 15 ∧ va_X b L ys (xs x) (xs x).heap ∧ b < (xs x).heap.size ∧ eL E = (xs x).heap.size ∧ xQ x = lw_Z (xb x) #[Value.ref b] (xs x) ∧ xa x = #[Value.ref b] ∧ xR x = room_1 ∧ (xM x).sig.returnType = ret ∧ xz x ≤ 7017128 ∧ L ≤ 320
section LRows
variable {E0 E : Ek} {x0 x : MC} {cc : ByteArray} {nL hm pc k1 b L : Nat} {own : String} {M : Mem} {lv : List (Nat × Value)} {st : List Value} {ys : Nat → Int32} {A : Prop}
theorem LX.cl (h : LX E x b L ys) : k1 ≤ 1000 → k1 ≤ (xR x).cells := fun hk => by
  rw [h.2.2.2.2.2.2.1]
  exact Nat.le_trans hk (by decide)
theorem LX.nb (h : LX E0 x b L ys) (hs : Same E0 E) : ¬ frE E b := by
  rw [hs.fr]
  show ¬ eL E0 ≤ b
  rw [h.2.2.2.1]
  exact Nat.not_le.mpr h.2.2.1
theorem g_slen (X0 : LX E0 x0 b L ys) (X : Cx E (xkz x0 k1 (xz x0)) cc nL own hm) (hs : Same E0 E) (hd : decode cc pc = .ok (.arraylength, 1)) (kk : G E (xkz x0 k1 (xz x0)) M (pc + 1) lv (.int (Int32.ofNat L) :: st)) : G E (xkz x0 k1 (xz x0)) M pc lv (.ref b :: st) := fun H locs ls hP hS hL => va_slen X.ex X.cb X0.2.1 X0.2.2.1 (X0.nb hs) hS hd (kk H locs ls hP hS hL)
theorem g_sld (X0 : LX E0 x0 b L ys) (X : Cx E (xkz x0 k1 (xz x0)) cc nL own hm) (hs : Same E0 E) {i : Int32} (hd : decode cc pc = .ok (.iaload, 1)) (h : vp_in i L ∧ A) (kk : vp_in i L → A → G E (xkz x0 k1 (xz x0)) M (pc + 1) lv (.int (ys i.toNatClampNeg) :: st)) : G E (xkz x0 k1 (xz x0)) M pc lv (.int i :: .ref b :: st) := fun H locs ls hP hS hL => va_sld X.ex X.cb X0.2.1 X0.2.2.1 (X0.nb hs) hS h.1 hd (kk h.1 h.2 H locs ls hP hS hL)
theorem g_lret1 (X0 : LX E0 x0 b L ys) (X : Cx E (xkz x0 k1 (xz x0)) cL_law nL own hm) (hs : Same E0 E) (hk : k1 ≤ 1000) (hd : decode cL_law pc = .ok (.ireturn, 1)) : G E (xkz x0 k1 (xz x0)) M pc lv [.int 1] := fun H locs ls hP hS hL => by
  show W (xp x0) (xl x0) (xe x0) (xR x0) (xs x0) (xm x0) (xa x0) (xb x0) (xM x0) (xc x0) H locs k1 (xz x0) (xQ x0) (F0 (xm x0) pc ls [.int 1])
  rw [X0.2.2.2.2.1, X0.2.2.2.2.2.1, X0.2.2.2.2.2.2.1]
  refine va_forget (fun q hq => ?_) ?_
  · have := hS.2.2 q hq
    rw [hs.fr] at this
    have h2 : eL E0 ≤ q.base := this
    rw [X0.2.2.2.1] at h2
    exact h2
  refine W.widen (k := 695040) (n := 7017128) (by omega) X0.2.2.2.2.2.2.2.2.1 ?_
  exact lw_ret X0.1.ex X0.1.cb X0.2.2.2.2.2.2.2.1 X0.1.lk hd
theorem vp_mono {i : Int32} {n m : Nat} (h : vp_in i n) (hm : n ≤ m) : vp_in i m := fun z => h (z.elim Or.inl (fun q => Or.inr (Nat.le_trans hm q)))
theorem cl_add5 {v y : Int32} (h : vp_in v 320) (hy : y = v + 5) : y.toNatClampNeg = v.toNatClampNeg + 5 := by
  obtain ⟨j, hj, e⟩ := vp_in_of h (by omega)
  rw [hy, e, show (5 : Int32) = nI 5 from rfl, nI_add, nI_clamp (by omega), nI_clamp (by omega)]
theorem Cx.roomB (X : Cx E x cc nL own hm) {hc mL : Nat} (hr : hc < hm) (hl : mL ≤ 21) : (rmk hc 4 0).frames + 1 ≤ (xR x).frames ∧ 8 + (mL + 11) + (rmk hc 4 0).locals ≤ (xR x).locals := X.roomA hr hl
end LRows
theorem g_callH {E : Ek} {x : MC} {cc : ByteArray} {nL hm pc : Nat} {M : Mem} {lv : List (Nat × Value)} {st : List Value} (X : Cx E x cc nL RL hm) {Post : Int32 → Mem → Prop} (hr : 8 < hm) (hW : (st.map fun v => v.category).sum ≤ 8) (hk : xk x + 4 ≤ (xR x).cells) (hd : decode cc pc = .ok (.invokevirtual 27, 3)) (h : wp_X11_house Post M) (kk : ∀ (F : Ek) (r : Int32) (M1 : Mem), Same E F → Apart F → Post r M1 → G F (xkz x (xk x + 4) (xz x)) M1 (pc + 3) lv (.int r :: st)) : G E x M pc lv (.ref (ad E 0) :: st) := fun H locs ls hP hS hL => by
  refine va_calli (va_runV (As := []) (rest := st) (C := RX11) ⟨X.ex, X.cb, X.ml, X.ow, X.hts⟩ (w_X11_house E (xl x) h) ⟨callB_of 0 X.hts (gt_GI cw_X11_house.1) rfl rfl rfl (X.hts _ cw_X11_house.2.1) (X.hts _ l996) cw_X11_house.2.2.2 (X.roomA hr cw_X11_house.2.2.1), X.hts _ l997, X.hts _ l998⟩ ⟨(X.pre hP hS).1, X.recv (⟨by decide, fun E f h => ⟨_, _, _, rfl, rfl, rfl⟩⟩ : OC 0 RX11) hP, (X.pre hP hS).2⟩ rfl rfl (hL.1.trans X.nl) rfl (lv_room hW) hd ⟨hk, X.kz.2⟩) hS (fun _ _ h => h) (fun _ h => h) (fun r u t H1 locs1 ht hvm hw hB hz1 hk1 hS1 => ?_)
  obtain ⟨h1, h2, h3⟩ := hw
  exact kk u.1 r u.2 h1 h2 h3 H1 locs1 ls (by rw [← ht, h1.1]; have := hB; unfold wdP at this; rw [h1.1] at this; exact this) (by rw [h1.fr]; exact hS1) hL
def wp_L_law_b850 (L : Nat) (ys : Nat → Int32) (P18 : Mem → Int32 → Prop) (M : Mem) (v3 : Int32) : Prop :=
 ∀ x3_1 : Int32, x3_1 = v3 + 5 →
 P18 M x3_1
def wp_L_law_b836 (L : Nat) (ys : Nat → Int32) (P18 : Mem → Int32 → Prop) (M : Mem) (v3 : Int32) : Prop :=
 wp_X11_digest (fun r2 M3 =>
  wp_X12_digest (fun r4 M5 =>
   ((lg_cmp r2 r4) = 0 →
    wp_L_law_b850 L ys P18 M5 v3) ∧
   (¬ (lg_cmp r2 r4) = 0 →
    False)) M3 ) M 
def wp_L_law_b813 (L : Nat) (ys : Nat → Int32) (P18 : Mem → Int32 → Prop) (M : Mem) (v3 : Int32) : Prop :=
 vp_in (v3 + 1) L ∧
 wp_X11_count (fun r6 M7 =>
  vp_in (v3 + 1) L ∧
  wp_X12_count (fun r8 M9 =>
   (r6 = r8 →
    wp_L_law_b850 L ys P18 M9 v3) ∧
   (¬ r6 = r8 →
    False)) M7 (ys (v3 + 1).toNatClampNeg)) M (ys (v3 + 1).toNatClampNeg)
def wp_L_law_b800 (L : Nat) (ys : Nat → Int32) (P18 : Mem → Int32 → Prop) (M : Mem) (v3 : Int32) : Prop :=
 wp_X11_restore (fun r10 M11 =>
  wp_X12_restore (fun r12 M13 =>
   (r10 = r12 →
    wp_L_law_b850 L ys P18 M13 v3) ∧
   (¬ r10 = r12 →
    False)) M11 ) M 
def wp_L_law_b787 (L : Nat) (ys : Nat → Int32) (P18 : Mem → Int32 → Prop) (M : Mem) (v3 : Int32) : Prop :=
 wp_X11_image (fun r14 M15 =>
  wp_X12_image (fun r16 M17 =>
   (r14 = r16 →
    wp_L_law_b850 L ys P18 M17 v3) ∧
   (¬ r14 = r16 →
    False)) M15 ) M 
def wp_L_law_b744 (L : Nat) (ys : Nat → Int32) (P18 : Mem → Int32 → Prop) (M : Mem) (v3 : Int32) : Prop :=
 vp_in (v3 + 1) L ∧
 vp_in (v3 + 2) L ∧
 vp_in (v3 + 3) L ∧
 wp_X11_winters (fun r18 M19 =>
  vp_in (v3 + 1) L ∧
  vp_in (v3 + 2) L ∧
  vp_in (v3 + 3) L ∧
  wp_X12_winters (fun r20 M21 =>
   (r18 = r20 →
    wp_L_law_b850 L ys P18 M21 v3) ∧
   (¬ r18 = r20 →
    False)) M19 (ys (v3 + 1).toNatClampNeg) (ys (v3 + 2).toNatClampNeg) (ys (v3 + 3).toNatClampNeg)) M (ys (v3 + 1).toNatClampNeg) (ys (v3 + 2).toNatClampNeg) (ys (v3 + 3).toNatClampNeg)
def wp_L_law_b731 (L : Nat) (ys : Nat → Int32) (P18 : Mem → Int32 → Prop) (M : Mem) (v3 : Int32) : Prop :=
 wp_X11_forget (fun r22 M23 =>
  wp_X12_forget (fun r24 M25 =>
   (r22 = r24 →
    wp_L_law_b850 L ys P18 M25 v3) ∧
   (¬ r22 = r24 →
    False)) M23 ) M 
def wp_L_law_b682 (L : Nat) (ys : Nat → Int32) (P18 : Mem → Int32 → Prop) (M : Mem) (v3 : Int32) : Prop :=
 vp_in (v3 + 1) L ∧
 vp_in (v3 + 2) L ∧
 ((ys (v3 + 2).toNatClampNeg) = 0 →
  wp_X11_see (fun r26 M27 =>
   vp_in (v3 + 1) L ∧
   vp_in (v3 + 2) L ∧
   ((ys (v3 + 2).toNatClampNeg) = 0 →
    wp_X12_see (fun r28 M29 =>
     (r26 = r28 →
      wp_L_law_b850 L ys P18 M29 v3) ∧
     (¬ r26 = r28 →
      False)) M27 (ys (v3 + 1).toNatClampNeg) 0) ∧
   (¬ (ys (v3 + 2).toNatClampNeg) = 0 →
    wp_X12_see (fun r30 M31 =>
     (r26 = r30 →
      wp_L_law_b850 L ys P18 M31 v3) ∧
     (¬ r26 = r30 →
      False)) M27 (ys (v3 + 1).toNatClampNeg) 1)) M (ys (v3 + 1).toNatClampNeg) 0) ∧
 (¬ (ys (v3 + 2).toNatClampNeg) = 0 →
  wp_X11_see (fun r32 M33 =>
   vp_in (v3 + 1) L ∧
   vp_in (v3 + 2) L ∧
   ((ys (v3 + 2).toNatClampNeg) = 0 →
    wp_X12_see (fun r34 M35 =>
     (r32 = r34 →
      wp_L_law_b850 L ys P18 M35 v3) ∧
     (¬ r32 = r34 →
      False)) M33 (ys (v3 + 1).toNatClampNeg) 0) ∧
   (¬ (ys (v3 + 2).toNatClampNeg) = 0 →
    wp_X12_see (fun r36 M37 =>
     (r32 = r36 →
      wp_L_law_b850 L ys P18 M37 v3) ∧
     (¬ r32 = r36 →
      False)) M33 (ys (v3 + 1).toNatClampNeg) 1)) M (ys (v3 + 1).toNatClampNeg) 1)
def wp_L_law_b629 (L : Nat) (ys : Nat → Int32) (P18 : Mem → Int32 → Prop) (M : Mem) (v3 : Int32) : Prop :=
 vp_in (v3 + 1) L ∧
 vp_in (v3 + 2) L ∧
 vp_in (v3 + 3) L ∧
 vp_in (v3 + 4) L ∧
 wp_X11_met (fun r38 M39 =>
  vp_in (v3 + 1) L ∧
  vp_in (v3 + 2) L ∧
  vp_in (v3 + 3) L ∧
  vp_in (v3 + 4) L ∧
  wp_X12_met (fun r40 M41 =>
   (r38 = r40 →
    wp_L_law_b850 L ys P18 M41 v3) ∧
   (¬ r38 = r40 →
    False)) M39 (ys (v3 + 1).toNatClampNeg) (ys (v3 + 2).toNatClampNeg) (ys (v3 + 3).toNatClampNeg) (ys (v3 + 4).toNatClampNeg)) M (ys (v3 + 1).toNatClampNeg) (ys (v3 + 2).toNatClampNeg) (ys (v3 + 3).toNatClampNeg) (ys (v3 + 4).toNatClampNeg)
def wp_L_law_b616 (L : Nat) (ys : Nat → Int32) (P18 : Mem → Int32 → Prop) (M : Mem) (v3 : Int32) : Prop :=
 wp_X11_sound (fun r42 M43 =>
  wp_X12_sound (fun r44 M45 =>
   (r42 = r44 →
    wp_L_law_b850 L ys P18 M45 v3) ∧
   (¬ r42 = r44 →
    False)) M43 ) M 
def wp_L_law_b583 (L : Nat) (ys : Nat → Int32) (P18 : Mem → Int32 → Prop) (M : Mem) (v3 : Int32) : Prop :=
 vp_in (v3 + 1) L ∧
 vp_in (v3 + 2) L ∧
 wp_X11_cancel (fun r46 M47 =>
  vp_in (v3 + 1) L ∧
  vp_in (v3 + 2) L ∧
  wp_X12_cancel (fun r48 M49 =>
   (r46 = r48 →
    wp_L_law_b850 L ys P18 M49 v3) ∧
   (¬ r46 = r48 →
    False)) M47 (ys (v3 + 1).toNatClampNeg) (ys (v3 + 2).toNatClampNeg)) M (ys (v3 + 1).toNatClampNeg) (ys (v3 + 2).toNatClampNeg)
def wp_L_law_b540 (L : Nat) (ys : Nat → Int32) (P18 : Mem → Int32 → Prop) (M : Mem) (v3 : Int32) : Prop :=
 vp_in (v3 + 1) L ∧
 vp_in (v3 + 2) L ∧
 vp_in (v3 + 3) L ∧
 wp_X11_night (fun r50 M51 =>
  vp_in (v3 + 1) L ∧
  vp_in (v3 + 2) L ∧
  vp_in (v3 + 3) L ∧
  wp_X12_night (fun r52 M53 =>
   (r50 = r52 →
    wp_L_law_b850 L ys P18 M53 v3) ∧
   (¬ r50 = r52 →
    False)) M51 (ys (v3 + 1).toNatClampNeg) (ys (v3 + 2).toNatClampNeg) (ys (v3 + 3).toNatClampNeg)) M (ys (v3 + 1).toNatClampNeg) (ys (v3 + 2).toNatClampNeg) (ys (v3 + 3).toNatClampNeg)
def wp_L_law_b497 (L : Nat) (ys : Nat → Int32) (P18 : Mem → Int32 → Prop) (M : Mem) (v3 : Int32) : Prop :=
 vp_in (v3 + 1) L ∧
 vp_in (v3 + 2) L ∧
 vp_in (v3 + 3) L ∧
 wp_X11_way (fun r54 M55 =>
  vp_in (v3 + 1) L ∧
  vp_in (v3 + 2) L ∧
  vp_in (v3 + 3) L ∧
  wp_X12_way (fun r56 M57 =>
   (r54 = r56 →
    wp_L_law_b850 L ys P18 M57 v3) ∧
   (¬ r54 = r56 →
    False)) M55 (ys (v3 + 1).toNatClampNeg) (ys (v3 + 2).toNatClampNeg) (ys (v3 + 3).toNatClampNeg)) M (ys (v3 + 1).toNatClampNeg) (ys (v3 + 2).toNatClampNeg) (ys (v3 + 3).toNatClampNeg)
def wp_L_law_b464 (L : Nat) (ys : Nat → Int32) (P18 : Mem → Int32 → Prop) (M : Mem) (v3 : Int32) : Prop :=
 vp_in (v3 + 1) L ∧
 vp_in (v3 + 2) L ∧
 wp_X11_owe (fun r58 M59 =>
  vp_in (v3 + 1) L ∧
  vp_in (v3 + 2) L ∧
  wp_X12_owe (fun r60 M61 =>
   (r58 = r60 →
    wp_L_law_b850 L ys P18 M61 v3) ∧
   (¬ r58 = r60 →
    False)) M59 (ys (v3 + 1).toNatClampNeg) (ys (v3 + 2).toNatClampNeg)) M (ys (v3 + 1).toNatClampNeg) (ys (v3 + 2).toNatClampNeg)
def wp_L_law_b431 (L : Nat) (ys : Nat → Int32) (P18 : Mem → Int32 → Prop) (M : Mem) (v3 : Int32) : Prop :=
 vp_in (v3 + 1) L ∧
 vp_in (v3 + 2) L ∧
 wp_X11_earn (fun r62 M63 =>
  vp_in (v3 + 1) L ∧
  vp_in (v3 + 2) L ∧
  wp_X12_earn (fun r64 M65 =>
   (r62 = r64 →
    wp_L_law_b850 L ys P18 M65 v3) ∧
   (¬ r62 = r64 →
    False)) M63 (ys (v3 + 1).toNatClampNeg) (ys (v3 + 2).toNatClampNeg)) M (ys (v3 + 1).toNatClampNeg) (ys (v3 + 2).toNatClampNeg)
def wp_L_law_b408 (L : Nat) (ys : Nat → Int32) (P18 : Mem → Int32 → Prop) (M : Mem) (v3 : Int32) : Prop :=
 vp_in (v3 + 1) L ∧
 wp_X11_pay (fun r66 M67 =>
  vp_in (v3 + 1) L ∧
  wp_X12_pay (fun r68 M69 =>
   (r66 = r68 →
    wp_L_law_b850 L ys P18 M69 v3) ∧
   (¬ r66 = r68 →
    False)) M67 (ys (v3 + 1).toNatClampNeg)) M (ys (v3 + 1).toNatClampNeg)
def wp_L_law_b375 (L : Nat) (ys : Nat → Int32) (P18 : Mem → Int32 → Prop) (M : Mem) (v3 : Int32) : Prop :=
 vp_in (v3 + 1) L ∧
 vp_in (v3 + 2) L ∧
 wp_X11_give (fun r70 M71 =>
  vp_in (v3 + 1) L ∧
  vp_in (v3 + 2) L ∧
  wp_X12_give (fun r72 M73 =>
   (r70 = r72 →
    wp_L_law_b850 L ys P18 M73 v3) ∧
   (¬ r70 = r72 →
    False)) M71 (ys (v3 + 1).toNatClampNeg) (ys (v3 + 2).toNatClampNeg)) M (ys (v3 + 1).toNatClampNeg) (ys (v3 + 2).toNatClampNeg)
def wp_L_law_b342 (L : Nat) (ys : Nat → Int32) (P18 : Mem → Int32 → Prop) (M : Mem) (v3 : Int32) : Prop :=
 vp_in (v3 + 1) L ∧
 vp_in (v3 + 2) L ∧
 wp_X11_go (fun r74 M75 =>
  vp_in (v3 + 1) L ∧
  vp_in (v3 + 2) L ∧
  wp_X12_go (fun r76 M77 =>
   (r74 = r76 →
    wp_L_law_b850 L ys P18 M77 v3) ∧
   (¬ r74 = r76 →
    False)) M75 (ys (v3 + 1).toNatClampNeg) (ys (v3 + 2).toNatClampNeg)) M (ys (v3 + 1).toNatClampNeg) (ys (v3 + 2).toNatClampNeg)
def wp_L_law_b309 (L : Nat) (ys : Nat → Int32) (P18 : Mem → Int32 → Prop) (M : Mem) (v3 : Int32) : Prop :=
 vp_in (v3 + 1) L ∧
 vp_in (v3 + 2) L ∧
 wp_X11_debt (fun r78 M79 =>
  vp_in (v3 + 1) L ∧
  vp_in (v3 + 2) L ∧
  wp_X12_debt (fun r80 M81 =>
   (r78 = r80 →
    wp_L_law_b850 L ys P18 M81 v3) ∧
   (¬ r78 = r80 →
    False)) M79 (ys (v3 + 1).toNatClampNeg) (ys (v3 + 2).toNatClampNeg)) M (ys (v3 + 1).toNatClampNeg) (ys (v3 + 2).toNatClampNeg)
def wp_L_law_b276 (L : Nat) (ys : Nat → Int32) (P18 : Mem → Int32 → Prop) (M : Mem) (v3 : Int32) : Prop :=
 vp_in (v3 + 1) L ∧
 vp_in (v3 + 2) L ∧
 wp_X11_door (fun r82 M83 =>
  vp_in (v3 + 1) L ∧
  vp_in (v3 + 2) L ∧
  wp_X12_door (fun r84 M85 =>
   (r82 = r84 →
    wp_L_law_b850 L ys P18 M85 v3) ∧
   (¬ r82 = r84 →
    False)) M83 (ys (v3 + 1).toNatClampNeg) (ys (v3 + 2).toNatClampNeg)) M (ys (v3 + 1).toNatClampNeg) (ys (v3 + 2).toNatClampNeg)
def wp_L_law_b243 (L : Nat) (ys : Nat → Int32) (P18 : Mem → Int32 → Prop) (M : Mem) (v3 : Int32) : Prop :=
 vp_in (v3 + 1) L ∧
 vp_in (v3 + 2) L ∧
 wp_X11_as (fun r86 M87 =>
  vp_in (v3 + 1) L ∧
  vp_in (v3 + 2) L ∧
  wp_X12_as (fun r88 M89 =>
   (r86 = r88 →
    wp_L_law_b850 L ys P18 M89 v3) ∧
   (¬ r86 = r88 →
    False)) M87 (ys (v3 + 1).toNatClampNeg) (ys (v3 + 2).toNatClampNeg)) M (ys (v3 + 1).toNatClampNeg) (ys (v3 + 2).toNatClampNeg)
def wp_L_law_b210 (L : Nat) (ys : Nat → Int32) (P18 : Mem → Int32 → Prop) (M : Mem) (v3 : Int32) : Prop :=
 vp_in (v3 + 1) L ∧
 vp_in (v3 + 2) L ∧
 wp_X11_person (fun r90 M91 =>
  vp_in (v3 + 1) L ∧
  vp_in (v3 + 2) L ∧
  wp_X12_person (fun r92 M93 =>
   (r90 = r92 →
    wp_L_law_b850 L ys P18 M93 v3) ∧
   (¬ r90 = r92 →
    False)) M91 (ys (v3 + 1).toNatClampNeg) (ys (v3 + 2).toNatClampNeg)) M (ys (v3 + 1).toNatClampNeg) (ys (v3 + 2).toNatClampNeg)
def wp_L_law_b201 (L : Nat) (ys : Nat → Int32) (P18 : Mem → Int32 → Prop) (M : Mem) (v3 : Int32) (s0 : Int32) : Prop :=
 wp_X12_house (fun r96 M97 =>
  (s0 = r96 →
   wp_L_law_b850 L ys P18 M97 v3) ∧
  (¬ s0 = r96 →
   False)) M 
def wp_L_law_b197 (L : Nat) (ys : Nat → Int32) (P18 : Mem → Int32 → Prop) (M : Mem) (v3 : Int32) : Prop :=
 wp_X11_house (fun r94 M95 =>
  wp_L_law_b201 L ys P18 M95 v3 r94) M
def wp_L_law_b184 (L : Nat) (ys : Nat → Int32) (P18 : Mem → Int32 → Prop) (M : Mem) (v3 : Int32) : Prop :=
 wp_X11_fault (fun r98 M99 =>
  wp_X12_fault (fun r100 M101 =>
   (r98 = r100 →
    wp_L_law_b850 L ys P18 M101 v3) ∧
   (¬ r98 = r100 →
    False)) M99 ) M 
def wp_L_law_b171 (L : Nat) (ys : Nat → Int32) (P18 : Mem → Int32 → Prop) (M : Mem) (v3 : Int32) : Prop :=
 wp_X11_blank (fun r102 M103 =>
  wp_X12_blank (fun r104 M105 =>
   (r102 = r104 →
    wp_L_law_b850 L ys P18 M105 v3) ∧
   (¬ r102 = r104 →
    False)) M103 ) M 
def wp_L_law_b148 (L : Nat) (ys : Nat → Int32) (P18 : Mem → Int32 → Prop) (M : Mem) (v3 : Int32) : Prop :=
 vp_in (v3 + 1) L ∧
 wp_X11_letter (fun r106 M107 =>
  vp_in (v3 + 1) L ∧
  wp_X12_letter (fun r108 M109 =>
   (r106 = r108 →
    wp_L_law_b850 L ys P18 M109 v3) ∧
   (¬ r106 = r108 →
    False)) M107 (ys (v3 + 1).toNatClampNeg)) M (ys (v3 + 1).toNatClampNeg)
def wp_L_law_b18 (L : Nat) (ys : Nat → Int32) (P18 : Mem → Int32 → Prop) (M : Mem) (v3 : Int32) : Prop :=
 (((Int32.ofNat L) - 5) < v3 →
  True) ∧
 (¬ ((Int32.ofNat L) - 5) < v3 →
  vp_in v3 L ∧
  (((ys v3.toNatClampNeg) &&& 31) = 0 →
   wp_L_law_b148 L ys P18 M v3) ∧
  (((ys v3.toNatClampNeg) &&& 31) = 1 →
   wp_L_law_b171 L ys P18 M v3) ∧
  (((ys v3.toNatClampNeg) &&& 31) = 2 →
   wp_L_law_b184 L ys P18 M v3) ∧
  (((ys v3.toNatClampNeg) &&& 31) = 3 →
   wp_L_law_b197 L ys P18 M v3) ∧
  (((ys v3.toNatClampNeg) &&& 31) = 4 →
   wp_L_law_b210 L ys P18 M v3) ∧
  (((ys v3.toNatClampNeg) &&& 31) = 5 →
   wp_L_law_b243 L ys P18 M v3) ∧
  (((ys v3.toNatClampNeg) &&& 31) = 6 →
   wp_L_law_b276 L ys P18 M v3) ∧
  (((ys v3.toNatClampNeg) &&& 31) = 7 →
   wp_L_law_b309 L ys P18 M v3) ∧
  (((ys v3.toNatClampNeg) &&& 31) = 8 →
   wp_L_law_b342 L ys P18 M v3) ∧
  (((ys v3.toNatClampNeg) &&& 31) = 9 →
   wp_L_law_b375 L ys P18 M v3) ∧
  (((ys v3.toNatClampNeg) &&& 31) = 10 →
   wp_L_law_b408 L ys P18 M v3) ∧
  (((ys v3.toNatClampNeg) &&& 31) = 11 →
   wp_L_law_b431 L ys P18 M v3) ∧
  (((ys v3.toNatClampNeg) &&& 31) = 12 →
   wp_L_law_b464 L ys P18 M v3) ∧
  (((ys v3.toNatClampNeg) &&& 31) = 13 →
   wp_L_law_b497 L ys P18 M v3) ∧
  (((ys v3.toNatClampNeg) &&& 31) = 14 →
   wp_L_law_b540 L ys P18 M v3) ∧
  (((ys v3.toNatClampNeg) &&& 31) = 15 →
   wp_L_law_b583 L ys P18 M v3) ∧
  (((ys v3.toNatClampNeg) &&& 31) = 16 →
   wp_L_law_b616 L ys P18 M v3) ∧
  (((ys v3.toNatClampNeg) &&& 31) = 17 →
   wp_L_law_b629 L ys P18 M v3) ∧
  (((ys v3.toNatClampNeg) &&& 31) = 18 →
   wp_L_law_b682 L ys P18 M v3) ∧
  (((ys v3.toNatClampNeg) &&& 31) = 19 →
   wp_L_law_b731 L ys P18 M v3) ∧
  (((ys v3.toNatClampNeg) &&& 31) = 20 →
   wp_L_law_b744 L ys P18 M v3) ∧
  (((ys v3.toNatClampNeg) &&& 31) = 21 →
   wp_L_law_b787 L ys P18 M v3) ∧
  (((ys v3.toNatClampNeg) &&& 31) = 22 →
   wp_L_law_b800 L ys P18 M v3) ∧
  (((ys v3.toNatClampNeg) &&& 31) = 23 →
   wp_L_law_b813 L ys P18 M v3) ∧
  (((ys v3.toNatClampNeg) &&& 31) = 24 →
   wp_L_law_b836 L ys P18 M v3) ∧
  (¬ ((ys v3.toNatClampNeg) &&& 31) = 0 → ¬ ((ys v3.toNatClampNeg) &&& 31) = 1 → ¬ ((ys v3.toNatClampNeg) &&& 31) = 2 → ¬ ((ys v3.toNatClampNeg) &&& 31) = 3 → ¬ ((ys v3.toNatClampNeg) &&& 31) = 4 → ¬ ((ys v3.toNatClampNeg) &&& 31) = 5 → ¬ ((ys v3.toNatClampNeg) &&& 31) = 6 → ¬ ((ys v3.toNatClampNeg) &&& 31) = 7 → ¬ ((ys v3.toNatClampNeg) &&& 31) = 8 → ¬ ((ys v3.toNatClampNeg) &&& 31) = 9 → ¬ ((ys v3.toNatClampNeg) &&& 31) = 10 → ¬ ((ys v3.toNatClampNeg) &&& 31) = 11 → ¬ ((ys v3.toNatClampNeg) &&& 31) = 12 → ¬ ((ys v3.toNatClampNeg) &&& 31) = 13 → ¬ ((ys v3.toNatClampNeg) &&& 31) = 14 → ¬ ((ys v3.toNatClampNeg) &&& 31) = 15 → ¬ ((ys v3.toNatClampNeg) &&& 31) = 16 → ¬ ((ys v3.toNatClampNeg) &&& 31) = 17 → ¬ ((ys v3.toNatClampNeg) &&& 31) = 18 → ¬ ((ys v3.toNatClampNeg) &&& 31) = 19 → ¬ ((ys v3.toNatClampNeg) &&& 31) = 20 → ¬ ((ys v3.toNatClampNeg) &&& 31) = 21 → ¬ ((ys v3.toNatClampNeg) &&& 31) = 22 → ¬ ((ys v3.toNatClampNeg) &&& 31) = 23 → ¬ ((ys v3.toNatClampNeg) &&& 31) = 24 → 
   wp_L_law_b850 L ys P18 M v3))
def wp_L_law (L : Nat) (ys : Nat → Int32) (M : Mem) : Prop :=
 ∀ P18 : Mem → Int32 → Prop, (∀ (M : Mem) (v3 : Int32), wp_L_law_b18 L ys P18 M v3 → P18 M v3) → P18 M 0
theorem k_L_law_b850 {E0 E : Ek} {x0 : MC} {b L k1 : Nat} {ys : Nat → Int32} (X0 : LX E0 x0 b L ys) (hs : Same E0 E) (ha : Apart E) (hk1 : k1 ≤ 1000) {M : Mem} {v3 : Int32} (hc : k1 ≤ 127 + v3.toNatClampNeg ∧ vp_in v3 320) (h : wp_L_law_b850 L ys (fun M v3 => ∀ (E : Ek) (k1 : Nat), Same E0 E → Apart E → k1 ≤ 1000 → k1 ≤ 123 + v3.toNatClampNeg ∧ k1 ≤ 1000 → G E (xkz x0 k1 (xz x0)) M 18 [(0, .ref b), (1, .ref (ad E 0)), (2, .ref (ad E 29)), (3, .int v3)] []) M v3) : G E (xkz x0 k1 (xz x0)) M 850 [(0, .ref b), (1, .ref (ad E 0)), (2, .ref (ad E 29)), (3, .int v3)] [] := by
  have X := X0.1.to hs ha (k := k1) (X0.cl hk1)
  refine g_iincE (w := 5) X dL_law_850 3 rfl (by decide) (Nat.le_of_ble_eq_true rfl) rfl (fun x3_1 => [(0, .ref b), (1, .ref (ad E 0)), (2, .ref (ad E 29)), (3, .int x3_1)]) (fun _ => rfl) h (fun x3_1 hy h => ?_)
  refine g_goto (tgt := 18) X dL_law_853 (by decide) ?_
  exact (h E k1 hs ha hk1 ⟨by rw [cl_add5 hc.2 hy]; have := hc.1; omega, by have := hc.1; have := vp_lt hc.2; omega⟩)
theorem k_L_law_b836 {E0 E : Ek} {x0 : MC} {b L k1 : Nat} {ys : Nat → Int32} (X0 : LX E0 x0 b L ys) (hs : Same E0 E) (ha : Apart E) (hk1 : k1 ≤ 1000) {M : Mem} {v3 : Int32} (hc : k1 ≤ 123 + v3.toNatClampNeg ∧ vp_in v3 320) (h : wp_L_law_b836 L ys (fun M v3 => ∀ (E : Ek) (k1 : Nat), Same E0 E → Apart E → k1 ≤ 1000 → k1 ≤ 123 + v3.toNatClampNeg ∧ k1 ≤ 1000 → G E (xkz x0 k1 (xz x0)) M 18 [(0, .ref b), (1, .ref (ad E 0)), (2, .ref (ad E 29)), (3, .int v3)] []) M v3) : G E (xkz x0 k1 (xz x0)) M 836 [(0, .ref b), (1, .ref (ad E 0)), (2, .ref (ad E 29)), (3, .int v3)] [] := by
  have X := X0.1.to hs ha (k := k1) (X0.cl hk1)
  refine g_aload_n X dL_law_836 rfl 1 rfl ?_
  refine cl_L_115 X (by decide) (Nat.le_of_ble_eq_true rfl) dL_law_837 h (fun r2 M3 h => ?_)
  refine g_aload_n X dL_law_840 rfl 2 rfl ?_
  refine cl_L_119 X (by decide) (Nat.le_of_ble_eq_true rfl) dL_law_841 h (fun r4 M5 h => ?_)
  refine g_lcmp X dL_law_844 ?_
  refine g_ifeq (tgt := 850) X dL_law_845 (by decide) h (fun h => ?_) (fun h => ?_)
  · exact (k_L_law_b850 X0 hs ha hk1 ⟨by have := hc.1; omega, hc.2⟩ h)
  · refine g_iconst (v := 0) X dL_law_848 (by decide) ?_
    exact h.elim
theorem k_L_law_b813 {E0 E : Ek} {x0 : MC} {b L k1 : Nat} {ys : Nat → Int32} (X0 : LX E0 x0 b L ys) (hs : Same E0 E) (ha : Apart E) (hk1 : k1 ≤ 1000) {M : Mem} {v3 : Int32} (hc : k1 ≤ 123 + v3.toNatClampNeg ∧ vp_in v3 320) (h : wp_L_law_b813 L ys (fun M v3 => ∀ (E : Ek) (k1 : Nat), Same E0 E → Apart E → k1 ≤ 1000 → k1 ≤ 123 + v3.toNatClampNeg ∧ k1 ≤ 1000 → G E (xkz x0 k1 (xz x0)) M 18 [(0, .ref b), (1, .ref (ad E 0)), (2, .ref (ad E 29)), (3, .int v3)] []) M v3) : G E (xkz x0 k1 (xz x0)) M 813 [(0, .ref b), (1, .ref (ad E 0)), (2, .ref (ad E 29)), (3, .int v3)] [] := by
  have X := X0.1.to hs ha (k := k1) (X0.cl hk1)
  refine g_aload_n X dL_law_813 rfl 1 rfl ?_
  refine g_aload_n X dL_law_814 rfl 0 rfl ?_
  refine g_iload_n X dL_law_815 rfl 3 rfl ?_
  refine g_iconst (v := 1) X dL_law_816 (by decide) ?_
  refine g_iadd X dL_law_817 ?_
  refine g_sld X0 X hs dL_law_818 h (fun hi2 h => ?_)
  refine cl_L_111 X (by decide) (Nat.le_of_ble_eq_true rfl) dL_law_819 h (fun r6 M7 h => ?_)
  refine g_aload_n X dL_law_822 rfl 2 rfl ?_
  refine g_aload_n X dL_law_823 rfl 0 rfl ?_
  refine g_iload_n X dL_law_824 rfl 3 rfl ?_
  refine g_iconst (v := 1) X dL_law_825 (by decide) ?_
  refine g_iadd X dL_law_826 ?_
  refine g_sld X0 X hs dL_law_827 h (fun hi3 h => ?_)
  refine cl_L_114 X (by decide) (Nat.le_of_ble_eq_true rfl) dL_law_828 h (fun r8 M9 h => ?_)
  refine g_icmpeq (tgt := 850) X dL_law_831 (by decide) h (fun h => ?_) (fun h => ?_)
  · exact (k_L_law_b850 X0 hs ha hk1 ⟨by have := hc.1; omega, hc.2⟩ h)
  · refine g_iconst (v := 0) X dL_law_834 (by decide) ?_
    exact h.elim
theorem k_L_law_b800 {E0 E : Ek} {x0 : MC} {b L k1 : Nat} {ys : Nat → Int32} (X0 : LX E0 x0 b L ys) (hs : Same E0 E) (ha : Apart E) (hk1 : k1 ≤ 1000) {M : Mem} {v3 : Int32} (hc : k1 ≤ 123 + v3.toNatClampNeg ∧ vp_in v3 320) (h : wp_L_law_b800 L ys (fun M v3 => ∀ (E : Ek) (k1 : Nat), Same E0 E → Apart E → k1 ≤ 1000 → k1 ≤ 123 + v3.toNatClampNeg ∧ k1 ≤ 1000 → G E (xkz x0 k1 (xz x0)) M 18 [(0, .ref b), (1, .ref (ad E 0)), (2, .ref (ad E 29)), (3, .int v3)] []) M v3) : G E (xkz x0 k1 (xz x0)) M 800 [(0, .ref b), (1, .ref (ad E 0)), (2, .ref (ad E 29)), (3, .int v3)] [] := by
  have X := X0.1.to hs ha (k := k1) (X0.cl hk1)
  refine g_aload_n X dL_law_800 rfl 1 rfl ?_
  refine cl_L_107 X (by decide) (Nat.le_of_ble_eq_true rfl) dL_law_801 h (fun r10 M11 h => ?_)
  refine g_aload_n X dL_law_804 rfl 2 rfl ?_
  refine cl_L_110 X (by decide) (Nat.le_of_ble_eq_true rfl) dL_law_805 h (fun r12 M13 h => ?_)
  refine g_icmpeq (tgt := 850) X dL_law_808 (by decide) h (fun h => ?_) (fun h => ?_)
  · exact (k_L_law_b850 X0 hs ha hk1 ⟨by have := hc.1; omega, hc.2⟩ h)
  · refine g_iconst (v := 0) X dL_law_811 (by decide) ?_
    exact h.elim
theorem k_L_law_b787 {E0 E : Ek} {x0 : MC} {b L k1 : Nat} {ys : Nat → Int32} (X0 : LX E0 x0 b L ys) (hs : Same E0 E) (ha : Apart E) (hk1 : k1 ≤ 1000) {M : Mem} {v3 : Int32} (hc : k1 ≤ 123 + v3.toNatClampNeg ∧ vp_in v3 320) (h : wp_L_law_b787 L ys (fun M v3 => ∀ (E : Ek) (k1 : Nat), Same E0 E → Apart E → k1 ≤ 1000 → k1 ≤ 123 + v3.toNatClampNeg ∧ k1 ≤ 1000 → G E (xkz x0 k1 (xz x0)) M 18 [(0, .ref b), (1, .ref (ad E 0)), (2, .ref (ad E 29)), (3, .int v3)] []) M v3) : G E (xkz x0 k1 (xz x0)) M 787 [(0, .ref b), (1, .ref (ad E 0)), (2, .ref (ad E 29)), (3, .int v3)] [] := by
  have X := X0.1.to hs ha (k := k1) (X0.cl hk1)
  refine g_aload_n X dL_law_787 rfl 1 rfl ?_
  refine cl_L_103 X (by decide) (Nat.le_of_ble_eq_true rfl) dL_law_788 h (fun r14 M15 h => ?_)
  refine g_aload_n X dL_law_791 rfl 2 rfl ?_
  refine cl_L_106 X (by decide) (Nat.le_of_ble_eq_true rfl) dL_law_792 h (fun r16 M17 h => ?_)
  refine g_icmpeq (tgt := 850) X dL_law_795 (by decide) h (fun h => ?_) (fun h => ?_)
  · exact (k_L_law_b850 X0 hs ha hk1 ⟨by have := hc.1; omega, hc.2⟩ h)
  · refine g_iconst (v := 0) X dL_law_798 (by decide) ?_
    exact h.elim
theorem k_L_law_b744 {E0 E : Ek} {x0 : MC} {b L k1 : Nat} {ys : Nat → Int32} (X0 : LX E0 x0 b L ys) (hs : Same E0 E) (ha : Apart E) (hk1 : k1 ≤ 1000) {M : Mem} {v3 : Int32} (hc : k1 ≤ 123 + v3.toNatClampNeg ∧ vp_in v3 320) (h : wp_L_law_b744 L ys (fun M v3 => ∀ (E : Ek) (k1 : Nat), Same E0 E → Apart E → k1 ≤ 1000 → k1 ≤ 123 + v3.toNatClampNeg ∧ k1 ≤ 1000 → G E (xkz x0 k1 (xz x0)) M 18 [(0, .ref b), (1, .ref (ad E 0)), (2, .ref (ad E 29)), (3, .int v3)] []) M v3) : G E (xkz x0 k1 (xz x0)) M 744 [(0, .ref b), (1, .ref (ad E 0)), (2, .ref (ad E 29)), (3, .int v3)] [] := by
  have X := X0.1.to hs ha (k := k1) (X0.cl hk1)
  refine g_aload_n X dL_law_744 rfl 1 rfl ?_
  refine g_aload_n X dL_law_745 rfl 0 rfl ?_
  refine g_iload_n X dL_law_746 rfl 3 rfl ?_
  refine g_iconst (v := 1) X dL_law_747 (by decide) ?_
  refine g_iadd X dL_law_748 ?_
  refine g_sld X0 X hs dL_law_749 h (fun hi4 h => ?_)
  refine g_aload_n X dL_law_750 rfl 0 rfl ?_
  refine g_iload_n X dL_law_751 rfl 3 rfl ?_
  refine g_iconst (v := 2) X dL_law_752 (by decide) ?_
  refine g_iadd X dL_law_753 ?_
  refine g_sld X0 X hs dL_law_754 h (fun hi5 h => ?_)
  refine g_aload_n X dL_law_755 rfl 0 rfl ?_
  refine g_iload_n X dL_law_756 rfl 3 rfl ?_
  refine g_iconst (v := 3) X dL_law_757 (by decide) ?_
  refine g_iadd X dL_law_758 ?_
  refine g_sld X0 X hs dL_law_759 h (fun hi6 h => ?_)
  refine cl_L_99 X (by decide) (Nat.le_of_ble_eq_true rfl) dL_law_760 h (fun r18 M19 h => ?_)
  refine g_aload_n X dL_law_763 rfl 2 rfl ?_
  refine g_aload_n X dL_law_764 rfl 0 rfl ?_
  refine g_iload_n X dL_law_765 rfl 3 rfl ?_
  refine g_iconst (v := 1) X dL_law_766 (by decide) ?_
  refine g_iadd X dL_law_767 ?_
  refine g_sld X0 X hs dL_law_768 h (fun hi7 h => ?_)
  refine g_aload_n X dL_law_769 rfl 0 rfl ?_
  refine g_iload_n X dL_law_770 rfl 3 rfl ?_
  refine g_iconst (v := 2) X dL_law_771 (by decide) ?_
  refine g_iadd X dL_law_772 ?_
  refine g_sld X0 X hs dL_law_773 h (fun hi8 h => ?_)
  refine g_aload_n X dL_law_774 rfl 0 rfl ?_
  refine g_iload_n X dL_law_775 rfl 3 rfl ?_
  refine g_iconst (v := 3) X dL_law_776 (by decide) ?_
  refine g_iadd X dL_law_777 ?_
  refine g_sld X0 X hs dL_law_778 h (fun hi9 h => ?_)
  refine cl_L_102 X (by decide) (Nat.le_of_ble_eq_true rfl) dL_law_779 h (fun r20 M21 h => ?_)
  refine g_icmpeq (tgt := 850) X dL_law_782 (by decide) h (fun h => ?_) (fun h => ?_)
  · exact (k_L_law_b850 X0 hs ha hk1 ⟨by have := hc.1; omega, hc.2⟩ h)
  · refine g_iconst (v := 0) X dL_law_785 (by decide) ?_
    exact h.elim
theorem k_L_law_b731 {E0 E : Ek} {x0 : MC} {b L k1 : Nat} {ys : Nat → Int32} (X0 : LX E0 x0 b L ys) (hs : Same E0 E) (ha : Apart E) (hk1 : k1 ≤ 1000) {M : Mem} {v3 : Int32} (hc : k1 ≤ 123 + v3.toNatClampNeg ∧ vp_in v3 320) (h : wp_L_law_b731 L ys (fun M v3 => ∀ (E : Ek) (k1 : Nat), Same E0 E → Apart E → k1 ≤ 1000 → k1 ≤ 123 + v3.toNatClampNeg ∧ k1 ≤ 1000 → G E (xkz x0 k1 (xz x0)) M 18 [(0, .ref b), (1, .ref (ad E 0)), (2, .ref (ad E 29)), (3, .int v3)] []) M v3) : G E (xkz x0 k1 (xz x0)) M 731 [(0, .ref b), (1, .ref (ad E 0)), (2, .ref (ad E 29)), (3, .int v3)] [] := by
  have X := X0.1.to hs ha (k := k1) (X0.cl hk1)
  refine g_aload_n X dL_law_731 rfl 1 rfl ?_
  refine cl_L_95 X (by decide) (Nat.le_of_ble_eq_true rfl) dL_law_732 h (fun r22 M23 h => ?_)
  refine g_aload_n X dL_law_735 rfl 2 rfl ?_
  refine cl_L_98 X (by decide) (Nat.le_of_ble_eq_true rfl) dL_law_736 h (fun r24 M25 h => ?_)
  refine g_icmpeq (tgt := 850) X dL_law_739 (by decide) h (fun h => ?_) (fun h => ?_)
  · exact (k_L_law_b850 X0 hs ha hk1 ⟨by have := hc.1; omega, hc.2⟩ h)
  · refine g_iconst (v := 0) X dL_law_742 (by decide) ?_
    exact h.elim
theorem k_L_law_b682 {E0 E : Ek} {x0 : MC} {b L k1 : Nat} {ys : Nat → Int32} (X0 : LX E0 x0 b L ys) (hs : Same E0 E) (ha : Apart E) (hk1 : k1 ≤ 1000) {M : Mem} {v3 : Int32} (hc : k1 ≤ 123 + v3.toNatClampNeg ∧ vp_in v3 320) (h : wp_L_law_b682 L ys (fun M v3 => ∀ (E : Ek) (k1 : Nat), Same E0 E → Apart E → k1 ≤ 1000 → k1 ≤ 123 + v3.toNatClampNeg ∧ k1 ≤ 1000 → G E (xkz x0 k1 (xz x0)) M 18 [(0, .ref b), (1, .ref (ad E 0)), (2, .ref (ad E 29)), (3, .int v3)] []) M v3) : G E (xkz x0 k1 (xz x0)) M 682 [(0, .ref b), (1, .ref (ad E 0)), (2, .ref (ad E 29)), (3, .int v3)] [] := by
  have X := X0.1.to hs ha (k := k1) (X0.cl hk1)
  refine g_aload_n X dL_law_682 rfl 1 rfl ?_
  refine g_aload_n X dL_law_683 rfl 0 rfl ?_
  refine g_iload_n X dL_law_684 rfl 3 rfl ?_
  refine g_iconst (v := 1) X dL_law_685 (by decide) ?_
  refine g_iadd X dL_law_686 ?_
  refine g_sld X0 X hs dL_law_687 h (fun hi10 h => ?_)
  refine g_aload_n X dL_law_688 rfl 0 rfl ?_
  refine g_iload_n X dL_law_689 rfl 3 rfl ?_
  refine g_iconst (v := 2) X dL_law_690 (by decide) ?_
  refine g_iadd X dL_law_691 ?_
  refine g_sld X0 X hs dL_law_692 h (fun hi11 h => ?_)
  refine g_ifeq (tgt := 700) X dL_law_693 (by decide) h (fun h => ?_) (fun h => ?_)
  · refine g_iconst (v := 0) X dL_law_700 (by decide) ?_
    refine cl_L_90 X (by decide) (Nat.le_of_ble_eq_true rfl) dL_law_701 h (fun r26 M27 h => ?_)
    refine g_aload_n X dL_law_704 rfl 2 rfl ?_
    refine g_aload_n X dL_law_705 rfl 0 rfl ?_
    refine g_iload_n X dL_law_706 rfl 3 rfl ?_
    refine g_iconst (v := 1) X dL_law_707 (by decide) ?_
    refine g_iadd X dL_law_708 ?_
    refine g_sld X0 X hs dL_law_709 h (fun hi12 h => ?_)
    refine g_aload_n X dL_law_710 rfl 0 rfl ?_
    refine g_iload_n X dL_law_711 rfl 3 rfl ?_
    refine g_iconst (v := 2) X dL_law_712 (by decide) ?_
    refine g_iadd X dL_law_713 ?_
    refine g_sld X0 X hs dL_law_714 h (fun hi13 h => ?_)
    refine g_ifeq (tgt := 722) X dL_law_715 (by decide) h (fun h => ?_) (fun h => ?_)
    · refine g_iconst (v := 0) X dL_law_722 (by decide) ?_
      refine cl_L_94 X (by decide) (Nat.le_of_ble_eq_true rfl) dL_law_723 h (fun r28 M29 h => ?_)
      refine g_icmpeq (tgt := 850) X dL_law_726 (by decide) h (fun h => ?_) (fun h => ?_)
      · exact (k_L_law_b850 X0 hs ha hk1 ⟨by have := hc.1; omega, hc.2⟩ h)
      · refine g_iconst (v := 0) X dL_law_729 (by decide) ?_
        exact h.elim
    · refine g_iconst (v := 1) X dL_law_718 (by decide) ?_
      refine g_goto (tgt := 723) X dL_law_719 (by decide) ?_
      refine cl_L_94 X (by decide) (Nat.le_of_ble_eq_true rfl) dL_law_723 h (fun r30 M31 h => ?_)
      refine g_icmpeq (tgt := 850) X dL_law_726 (by decide) h (fun h => ?_) (fun h => ?_)
      · exact (k_L_law_b850 X0 hs ha hk1 ⟨by have := hc.1; omega, hc.2⟩ h)
      · refine g_iconst (v := 0) X dL_law_729 (by decide) ?_
        exact h.elim
  · refine g_iconst (v := 1) X dL_law_696 (by decide) ?_
    refine g_goto (tgt := 701) X dL_law_697 (by decide) ?_
    refine cl_L_90 X (by decide) (Nat.le_of_ble_eq_true rfl) dL_law_701 h (fun r32 M33 h => ?_)
    refine g_aload_n X dL_law_704 rfl 2 rfl ?_
    refine g_aload_n X dL_law_705 rfl 0 rfl ?_
    refine g_iload_n X dL_law_706 rfl 3 rfl ?_
    refine g_iconst (v := 1) X dL_law_707 (by decide) ?_
    refine g_iadd X dL_law_708 ?_
    refine g_sld X0 X hs dL_law_709 h (fun hi14 h => ?_)
    refine g_aload_n X dL_law_710 rfl 0 rfl ?_
    refine g_iload_n X dL_law_711 rfl 3 rfl ?_
    refine g_iconst (v := 2) X dL_law_712 (by decide) ?_
    refine g_iadd X dL_law_713 ?_
    refine g_sld X0 X hs dL_law_714 h (fun hi15 h => ?_)
    refine g_ifeq (tgt := 722) X dL_law_715 (by decide) h (fun h => ?_) (fun h => ?_)
    · refine g_iconst (v := 0) X dL_law_722 (by decide) ?_
      refine cl_L_94 X (by decide) (Nat.le_of_ble_eq_true rfl) dL_law_723 h (fun r34 M35 h => ?_)
      refine g_icmpeq (tgt := 850) X dL_law_726 (by decide) h (fun h => ?_) (fun h => ?_)
      · exact (k_L_law_b850 X0 hs ha hk1 ⟨by have := hc.1; omega, hc.2⟩ h)
      · refine g_iconst (v := 0) X dL_law_729 (by decide) ?_
        exact h.elim
    · refine g_iconst (v := 1) X dL_law_718 (by decide) ?_
      refine g_goto (tgt := 723) X dL_law_719 (by decide) ?_
      refine cl_L_94 X (by decide) (Nat.le_of_ble_eq_true rfl) dL_law_723 h (fun r36 M37 h => ?_)
      refine g_icmpeq (tgt := 850) X dL_law_726 (by decide) h (fun h => ?_) (fun h => ?_)
      · exact (k_L_law_b850 X0 hs ha hk1 ⟨by have := hc.1; omega, hc.2⟩ h)
      · refine g_iconst (v := 0) X dL_law_729 (by decide) ?_
        exact h.elim
theorem k_L_law_b629 {E0 E : Ek} {x0 : MC} {b L k1 : Nat} {ys : Nat → Int32} (X0 : LX E0 x0 b L ys) (hs : Same E0 E) (ha : Apart E) (hk1 : k1 ≤ 1000) {M : Mem} {v3 : Int32} (hc : k1 ≤ 123 + v3.toNatClampNeg ∧ vp_in v3 320) (h : wp_L_law_b629 L ys (fun M v3 => ∀ (E : Ek) (k1 : Nat), Same E0 E → Apart E → k1 ≤ 1000 → k1 ≤ 123 + v3.toNatClampNeg ∧ k1 ≤ 1000 → G E (xkz x0 k1 (xz x0)) M 18 [(0, .ref b), (1, .ref (ad E 0)), (2, .ref (ad E 29)), (3, .int v3)] []) M v3) : G E (xkz x0 k1 (xz x0)) M 629 [(0, .ref b), (1, .ref (ad E 0)), (2, .ref (ad E 29)), (3, .int v3)] [] := by
  have X := X0.1.to hs ha (k := k1) (X0.cl hk1)
  refine g_aload_n X dL_law_629 rfl 1 rfl ?_
  refine g_aload_n X dL_law_630 rfl 0 rfl ?_
  refine g_iload_n X dL_law_631 rfl 3 rfl ?_
  refine g_iconst (v := 1) X dL_law_632 (by decide) ?_
  refine g_iadd X dL_law_633 ?_
  refine g_sld X0 X hs dL_law_634 h (fun hi16 h => ?_)
  refine g_aload_n X dL_law_635 rfl 0 rfl ?_
  refine g_iload_n X dL_law_636 rfl 3 rfl ?_
  refine g_iconst (v := 2) X dL_law_637 (by decide) ?_
  refine g_iadd X dL_law_638 ?_
  refine g_sld X0 X hs dL_law_639 h (fun hi17 h => ?_)
  refine g_aload_n X dL_law_640 rfl 0 rfl ?_
  refine g_iload_n X dL_law_641 rfl 3 rfl ?_
  refine g_iconst (v := 3) X dL_law_642 (by decide) ?_
  refine g_iadd X dL_law_643 ?_
  refine g_sld X0 X hs dL_law_644 h (fun hi18 h => ?_)
  refine g_aload_n X dL_law_645 rfl 0 rfl ?_
  refine g_iload_n X dL_law_646 rfl 3 rfl ?_
  refine g_iconst (v := 4) X dL_law_647 (by decide) ?_
  refine g_iadd X dL_law_648 ?_
  refine g_sld X0 X hs dL_law_649 h (fun hi19 h => ?_)
  refine cl_L_85 X (by decide) (Nat.le_of_ble_eq_true rfl) dL_law_650 h (fun r38 M39 h => ?_)
  refine g_aload_n X dL_law_653 rfl 2 rfl ?_
  refine g_aload_n X dL_law_654 rfl 0 rfl ?_
  refine g_iload_n X dL_law_655 rfl 3 rfl ?_
  refine g_iconst (v := 1) X dL_law_656 (by decide) ?_
  refine g_iadd X dL_law_657 ?_
  refine g_sld X0 X hs dL_law_658 h (fun hi20 h => ?_)
  refine g_aload_n X dL_law_659 rfl 0 rfl ?_
  refine g_iload_n X dL_law_660 rfl 3 rfl ?_
  refine g_iconst (v := 2) X dL_law_661 (by decide) ?_
  refine g_iadd X dL_law_662 ?_
  refine g_sld X0 X hs dL_law_663 h (fun hi21 h => ?_)
  refine g_aload_n X dL_law_664 rfl 0 rfl ?_
  refine g_iload_n X dL_law_665 rfl 3 rfl ?_
  refine g_iconst (v := 3) X dL_law_666 (by decide) ?_
  refine g_iadd X dL_law_667 ?_
  refine g_sld X0 X hs dL_law_668 h (fun hi22 h => ?_)
  refine g_aload_n X dL_law_669 rfl 0 rfl ?_
  refine g_iload_n X dL_law_670 rfl 3 rfl ?_
  refine g_iconst (v := 4) X dL_law_671 (by decide) ?_
  refine g_iadd X dL_law_672 ?_
  refine g_sld X0 X hs dL_law_673 h (fun hi23 h => ?_)
  refine cl_L_89 X (by decide) (Nat.le_of_ble_eq_true rfl) dL_law_674 h (fun r40 M41 h => ?_)
  refine g_icmpeq (tgt := 850) X dL_law_677 (by decide) h (fun h => ?_) (fun h => ?_)
  · exact (k_L_law_b850 X0 hs ha hk1 ⟨by have := hc.1; omega, hc.2⟩ h)
  · refine g_iconst (v := 0) X dL_law_680 (by decide) ?_
    exact h.elim
theorem k_L_law_b616 {E0 E : Ek} {x0 : MC} {b L k1 : Nat} {ys : Nat → Int32} (X0 : LX E0 x0 b L ys) (hs : Same E0 E) (ha : Apart E) (hk1 : k1 ≤ 1000) {M : Mem} {v3 : Int32} (hc : k1 ≤ 123 + v3.toNatClampNeg ∧ vp_in v3 320) (h : wp_L_law_b616 L ys (fun M v3 => ∀ (E : Ek) (k1 : Nat), Same E0 E → Apart E → k1 ≤ 1000 → k1 ≤ 123 + v3.toNatClampNeg ∧ k1 ≤ 1000 → G E (xkz x0 k1 (xz x0)) M 18 [(0, .ref b), (1, .ref (ad E 0)), (2, .ref (ad E 29)), (3, .int v3)] []) M v3) : G E (xkz x0 k1 (xz x0)) M 616 [(0, .ref b), (1, .ref (ad E 0)), (2, .ref (ad E 29)), (3, .int v3)] [] := by
  have X := X0.1.to hs ha (k := k1) (X0.cl hk1)
  refine g_aload_n X dL_law_616 rfl 1 rfl ?_
  refine cl_L_81 X (by decide) (Nat.le_of_ble_eq_true rfl) dL_law_617 h (fun r42 M43 h => ?_)
  refine g_aload_n X dL_law_620 rfl 2 rfl ?_
  refine cl_L_84 X (by decide) (Nat.le_of_ble_eq_true rfl) dL_law_621 h (fun r44 M45 h => ?_)
  refine g_icmpeq (tgt := 850) X dL_law_624 (by decide) h (fun h => ?_) (fun h => ?_)
  · exact (k_L_law_b850 X0 hs ha hk1 ⟨by have := hc.1; omega, hc.2⟩ h)
  · refine g_iconst (v := 0) X dL_law_627 (by decide) ?_
    exact h.elim
theorem k_L_law_b583 {E0 E : Ek} {x0 : MC} {b L k1 : Nat} {ys : Nat → Int32} (X0 : LX E0 x0 b L ys) (hs : Same E0 E) (ha : Apart E) (hk1 : k1 ≤ 1000) {M : Mem} {v3 : Int32} (hc : k1 ≤ 123 + v3.toNatClampNeg ∧ vp_in v3 320) (h : wp_L_law_b583 L ys (fun M v3 => ∀ (E : Ek) (k1 : Nat), Same E0 E → Apart E → k1 ≤ 1000 → k1 ≤ 123 + v3.toNatClampNeg ∧ k1 ≤ 1000 → G E (xkz x0 k1 (xz x0)) M 18 [(0, .ref b), (1, .ref (ad E 0)), (2, .ref (ad E 29)), (3, .int v3)] []) M v3) : G E (xkz x0 k1 (xz x0)) M 583 [(0, .ref b), (1, .ref (ad E 0)), (2, .ref (ad E 29)), (3, .int v3)] [] := by
  have X := X0.1.to hs ha (k := k1) (X0.cl hk1)
  refine g_aload_n X dL_law_583 rfl 1 rfl ?_
  refine g_aload_n X dL_law_584 rfl 0 rfl ?_
  refine g_iload_n X dL_law_585 rfl 3 rfl ?_
  refine g_iconst (v := 1) X dL_law_586 (by decide) ?_
  refine g_iadd X dL_law_587 ?_
  refine g_sld X0 X hs dL_law_588 h (fun hi24 h => ?_)
  refine g_aload_n X dL_law_589 rfl 0 rfl ?_
  refine g_iload_n X dL_law_590 rfl 3 rfl ?_
  refine g_iconst (v := 2) X dL_law_591 (by decide) ?_
  refine g_iadd X dL_law_592 ?_
  refine g_sld X0 X hs dL_law_593 h (fun hi25 h => ?_)
  refine cl_L_77 X (by decide) (Nat.le_of_ble_eq_true rfl) dL_law_594 h (fun r46 M47 h => ?_)
  refine g_aload_n X dL_law_597 rfl 2 rfl ?_
  refine g_aload_n X dL_law_598 rfl 0 rfl ?_
  refine g_iload_n X dL_law_599 rfl 3 rfl ?_
  refine g_iconst (v := 1) X dL_law_600 (by decide) ?_
  refine g_iadd X dL_law_601 ?_
  refine g_sld X0 X hs dL_law_602 h (fun hi26 h => ?_)
  refine g_aload_n X dL_law_603 rfl 0 rfl ?_
  refine g_iload_n X dL_law_604 rfl 3 rfl ?_
  refine g_iconst (v := 2) X dL_law_605 (by decide) ?_
  refine g_iadd X dL_law_606 ?_
  refine g_sld X0 X hs dL_law_607 h (fun hi27 h => ?_)
  refine cl_L_80 X (by decide) (Nat.le_of_ble_eq_true rfl) dL_law_608 h (fun r48 M49 h => ?_)
  refine g_icmpeq (tgt := 850) X dL_law_611 (by decide) h (fun h => ?_) (fun h => ?_)
  · exact (k_L_law_b850 X0 hs ha hk1 ⟨by have := hc.1; omega, hc.2⟩ h)
  · refine g_iconst (v := 0) X dL_law_614 (by decide) ?_
    exact h.elim
theorem k_L_law_b540 {E0 E : Ek} {x0 : MC} {b L k1 : Nat} {ys : Nat → Int32} (X0 : LX E0 x0 b L ys) (hs : Same E0 E) (ha : Apart E) (hk1 : k1 ≤ 1000) {M : Mem} {v3 : Int32} (hc : k1 ≤ 123 + v3.toNatClampNeg ∧ vp_in v3 320) (h : wp_L_law_b540 L ys (fun M v3 => ∀ (E : Ek) (k1 : Nat), Same E0 E → Apart E → k1 ≤ 1000 → k1 ≤ 123 + v3.toNatClampNeg ∧ k1 ≤ 1000 → G E (xkz x0 k1 (xz x0)) M 18 [(0, .ref b), (1, .ref (ad E 0)), (2, .ref (ad E 29)), (3, .int v3)] []) M v3) : G E (xkz x0 k1 (xz x0)) M 540 [(0, .ref b), (1, .ref (ad E 0)), (2, .ref (ad E 29)), (3, .int v3)] [] := by
  have X := X0.1.to hs ha (k := k1) (X0.cl hk1)
  refine g_aload_n X dL_law_540 rfl 1 rfl ?_
  refine g_aload_n X dL_law_541 rfl 0 rfl ?_
  refine g_iload_n X dL_law_542 rfl 3 rfl ?_
  refine g_iconst (v := 1) X dL_law_543 (by decide) ?_
  refine g_iadd X dL_law_544 ?_
  refine g_sld X0 X hs dL_law_545 h (fun hi28 h => ?_)
  refine g_aload_n X dL_law_546 rfl 0 rfl ?_
  refine g_iload_n X dL_law_547 rfl 3 rfl ?_
  refine g_iconst (v := 2) X dL_law_548 (by decide) ?_
  refine g_iadd X dL_law_549 ?_
  refine g_sld X0 X hs dL_law_550 h (fun hi29 h => ?_)
  refine g_aload_n X dL_law_551 rfl 0 rfl ?_
  refine g_iload_n X dL_law_552 rfl 3 rfl ?_
  refine g_iconst (v := 3) X dL_law_553 (by decide) ?_
  refine g_iadd X dL_law_554 ?_
  refine g_sld X0 X hs dL_law_555 h (fun hi30 h => ?_)
  refine cl_L_73 X (by decide) (Nat.le_of_ble_eq_true rfl) dL_law_556 h (fun r50 M51 h => ?_)
  refine g_aload_n X dL_law_559 rfl 2 rfl ?_
  refine g_aload_n X dL_law_560 rfl 0 rfl ?_
  refine g_iload_n X dL_law_561 rfl 3 rfl ?_
  refine g_iconst (v := 1) X dL_law_562 (by decide) ?_
  refine g_iadd X dL_law_563 ?_
  refine g_sld X0 X hs dL_law_564 h (fun hi31 h => ?_)
  refine g_aload_n X dL_law_565 rfl 0 rfl ?_
  refine g_iload_n X dL_law_566 rfl 3 rfl ?_
  refine g_iconst (v := 2) X dL_law_567 (by decide) ?_
  refine g_iadd X dL_law_568 ?_
  refine g_sld X0 X hs dL_law_569 h (fun hi32 h => ?_)
  refine g_aload_n X dL_law_570 rfl 0 rfl ?_
  refine g_iload_n X dL_law_571 rfl 3 rfl ?_
  refine g_iconst (v := 3) X dL_law_572 (by decide) ?_
  refine g_iadd X dL_law_573 ?_
  refine g_sld X0 X hs dL_law_574 h (fun hi33 h => ?_)
  refine cl_L_76 X (by decide) (Nat.le_of_ble_eq_true rfl) dL_law_575 h (fun r52 M53 h => ?_)
  refine g_icmpeq (tgt := 850) X dL_law_578 (by decide) h (fun h => ?_) (fun h => ?_)
  · exact (k_L_law_b850 X0 hs ha hk1 ⟨by have := hc.1; omega, hc.2⟩ h)
  · refine g_iconst (v := 0) X dL_law_581 (by decide) ?_
    exact h.elim
theorem k_L_law_b497 {E0 E : Ek} {x0 : MC} {b L k1 : Nat} {ys : Nat → Int32} (X0 : LX E0 x0 b L ys) (hs : Same E0 E) (ha : Apart E) (hk1 : k1 ≤ 1000) {M : Mem} {v3 : Int32} (hc : k1 ≤ 123 + v3.toNatClampNeg ∧ vp_in v3 320) (h : wp_L_law_b497 L ys (fun M v3 => ∀ (E : Ek) (k1 : Nat), Same E0 E → Apart E → k1 ≤ 1000 → k1 ≤ 123 + v3.toNatClampNeg ∧ k1 ≤ 1000 → G E (xkz x0 k1 (xz x0)) M 18 [(0, .ref b), (1, .ref (ad E 0)), (2, .ref (ad E 29)), (3, .int v3)] []) M v3) : G E (xkz x0 k1 (xz x0)) M 497 [(0, .ref b), (1, .ref (ad E 0)), (2, .ref (ad E 29)), (3, .int v3)] [] := by
  have X := X0.1.to hs ha (k := k1) (X0.cl hk1)
  refine g_aload_n X dL_law_497 rfl 1 rfl ?_
  refine g_aload_n X dL_law_498 rfl 0 rfl ?_
  refine g_iload_n X dL_law_499 rfl 3 rfl ?_
  refine g_iconst (v := 1) X dL_law_500 (by decide) ?_
  refine g_iadd X dL_law_501 ?_
  refine g_sld X0 X hs dL_law_502 h (fun hi34 h => ?_)
  refine g_aload_n X dL_law_503 rfl 0 rfl ?_
  refine g_iload_n X dL_law_504 rfl 3 rfl ?_
  refine g_iconst (v := 2) X dL_law_505 (by decide) ?_
  refine g_iadd X dL_law_506 ?_
  refine g_sld X0 X hs dL_law_507 h (fun hi35 h => ?_)
  refine g_aload_n X dL_law_508 rfl 0 rfl ?_
  refine g_iload_n X dL_law_509 rfl 3 rfl ?_
  refine g_iconst (v := 3) X dL_law_510 (by decide) ?_
  refine g_iadd X dL_law_511 ?_
  refine g_sld X0 X hs dL_law_512 h (fun hi36 h => ?_)
  refine cl_L_68 X (by decide) (Nat.le_of_ble_eq_true rfl) dL_law_513 h (fun r54 M55 h => ?_)
  refine g_aload_n X dL_law_516 rfl 2 rfl ?_
  refine g_aload_n X dL_law_517 rfl 0 rfl ?_
  refine g_iload_n X dL_law_518 rfl 3 rfl ?_
  refine g_iconst (v := 1) X dL_law_519 (by decide) ?_
  refine g_iadd X dL_law_520 ?_
  refine g_sld X0 X hs dL_law_521 h (fun hi37 h => ?_)
  refine g_aload_n X dL_law_522 rfl 0 rfl ?_
  refine g_iload_n X dL_law_523 rfl 3 rfl ?_
  refine g_iconst (v := 2) X dL_law_524 (by decide) ?_
  refine g_iadd X dL_law_525 ?_
  refine g_sld X0 X hs dL_law_526 h (fun hi38 h => ?_)
  refine g_aload_n X dL_law_527 rfl 0 rfl ?_
  refine g_iload_n X dL_law_528 rfl 3 rfl ?_
  refine g_iconst (v := 3) X dL_law_529 (by decide) ?_
  refine g_iadd X dL_law_530 ?_
  refine g_sld X0 X hs dL_law_531 h (fun hi39 h => ?_)
  refine cl_L_72 X (by decide) (Nat.le_of_ble_eq_true rfl) dL_law_532 h (fun r56 M57 h => ?_)
  refine g_icmpeq (tgt := 850) X dL_law_535 (by decide) h (fun h => ?_) (fun h => ?_)
  · exact (k_L_law_b850 X0 hs ha hk1 ⟨by have := hc.1; omega, hc.2⟩ h)
  · refine g_iconst (v := 0) X dL_law_538 (by decide) ?_
    exact h.elim
theorem k_L_law_b464 {E0 E : Ek} {x0 : MC} {b L k1 : Nat} {ys : Nat → Int32} (X0 : LX E0 x0 b L ys) (hs : Same E0 E) (ha : Apart E) (hk1 : k1 ≤ 1000) {M : Mem} {v3 : Int32} (hc : k1 ≤ 123 + v3.toNatClampNeg ∧ vp_in v3 320) (h : wp_L_law_b464 L ys (fun M v3 => ∀ (E : Ek) (k1 : Nat), Same E0 E → Apart E → k1 ≤ 1000 → k1 ≤ 123 + v3.toNatClampNeg ∧ k1 ≤ 1000 → G E (xkz x0 k1 (xz x0)) M 18 [(0, .ref b), (1, .ref (ad E 0)), (2, .ref (ad E 29)), (3, .int v3)] []) M v3) : G E (xkz x0 k1 (xz x0)) M 464 [(0, .ref b), (1, .ref (ad E 0)), (2, .ref (ad E 29)), (3, .int v3)] [] := by
  have X := X0.1.to hs ha (k := k1) (X0.cl hk1)
  refine g_aload_n X dL_law_464 rfl 1 rfl ?_
  refine g_aload_n X dL_law_465 rfl 0 rfl ?_
  refine g_iload_n X dL_law_466 rfl 3 rfl ?_
  refine g_iconst (v := 1) X dL_law_467 (by decide) ?_
  refine g_iadd X dL_law_468 ?_
  refine g_sld X0 X hs dL_law_469 h (fun hi40 h => ?_)
  refine g_aload_n X dL_law_470 rfl 0 rfl ?_
  refine g_iload_n X dL_law_471 rfl 3 rfl ?_
  refine g_iconst (v := 2) X dL_law_472 (by decide) ?_
  refine g_iadd X dL_law_473 ?_
  refine g_sld X0 X hs dL_law_474 h (fun hi41 h => ?_)
  refine cl_L_64 X (by decide) (Nat.le_of_ble_eq_true rfl) dL_law_475 h (fun r58 M59 h => ?_)
  refine g_aload_n X dL_law_478 rfl 2 rfl ?_
  refine g_aload_n X dL_law_479 rfl 0 rfl ?_
  refine g_iload_n X dL_law_480 rfl 3 rfl ?_
  refine g_iconst (v := 1) X dL_law_481 (by decide) ?_
  refine g_iadd X dL_law_482 ?_
  refine g_sld X0 X hs dL_law_483 h (fun hi42 h => ?_)
  refine g_aload_n X dL_law_484 rfl 0 rfl ?_
  refine g_iload_n X dL_law_485 rfl 3 rfl ?_
  refine g_iconst (v := 2) X dL_law_486 (by decide) ?_
  refine g_iadd X dL_law_487 ?_
  refine g_sld X0 X hs dL_law_488 h (fun hi43 h => ?_)
  refine cl_L_67 X (by decide) (Nat.le_of_ble_eq_true rfl) dL_law_489 h (fun r60 M61 h => ?_)
  refine g_icmpeq (tgt := 850) X dL_law_492 (by decide) h (fun h => ?_) (fun h => ?_)
  · exact (k_L_law_b850 X0 hs ha hk1 ⟨by have := hc.1; omega, hc.2⟩ h)
  · refine g_iconst (v := 0) X dL_law_495 (by decide) ?_
    exact h.elim
theorem k_L_law_b431 {E0 E : Ek} {x0 : MC} {b L k1 : Nat} {ys : Nat → Int32} (X0 : LX E0 x0 b L ys) (hs : Same E0 E) (ha : Apart E) (hk1 : k1 ≤ 1000) {M : Mem} {v3 : Int32} (hc : k1 ≤ 123 + v3.toNatClampNeg ∧ vp_in v3 320) (h : wp_L_law_b431 L ys (fun M v3 => ∀ (E : Ek) (k1 : Nat), Same E0 E → Apart E → k1 ≤ 1000 → k1 ≤ 123 + v3.toNatClampNeg ∧ k1 ≤ 1000 → G E (xkz x0 k1 (xz x0)) M 18 [(0, .ref b), (1, .ref (ad E 0)), (2, .ref (ad E 29)), (3, .int v3)] []) M v3) : G E (xkz x0 k1 (xz x0)) M 431 [(0, .ref b), (1, .ref (ad E 0)), (2, .ref (ad E 29)), (3, .int v3)] [] := by
  have X := X0.1.to hs ha (k := k1) (X0.cl hk1)
  refine g_aload_n X dL_law_431 rfl 1 rfl ?_
  refine g_aload_n X dL_law_432 rfl 0 rfl ?_
  refine g_iload_n X dL_law_433 rfl 3 rfl ?_
  refine g_iconst (v := 1) X dL_law_434 (by decide) ?_
  refine g_iadd X dL_law_435 ?_
  refine g_sld X0 X hs dL_law_436 h (fun hi44 h => ?_)
  refine g_aload_n X dL_law_437 rfl 0 rfl ?_
  refine g_iload_n X dL_law_438 rfl 3 rfl ?_
  refine g_iconst (v := 2) X dL_law_439 (by decide) ?_
  refine g_iadd X dL_law_440 ?_
  refine g_sld X0 X hs dL_law_441 h (fun hi45 h => ?_)
  refine cl_L_60 X (by decide) (Nat.le_of_ble_eq_true rfl) dL_law_442 h (fun r62 M63 h => ?_)
  refine g_aload_n X dL_law_445 rfl 2 rfl ?_
  refine g_aload_n X dL_law_446 rfl 0 rfl ?_
  refine g_iload_n X dL_law_447 rfl 3 rfl ?_
  refine g_iconst (v := 1) X dL_law_448 (by decide) ?_
  refine g_iadd X dL_law_449 ?_
  refine g_sld X0 X hs dL_law_450 h (fun hi46 h => ?_)
  refine g_aload_n X dL_law_451 rfl 0 rfl ?_
  refine g_iload_n X dL_law_452 rfl 3 rfl ?_
  refine g_iconst (v := 2) X dL_law_453 (by decide) ?_
  refine g_iadd X dL_law_454 ?_
  refine g_sld X0 X hs dL_law_455 h (fun hi47 h => ?_)
  refine cl_L_63 X (by decide) (Nat.le_of_ble_eq_true rfl) dL_law_456 h (fun r64 M65 h => ?_)
  refine g_icmpeq (tgt := 850) X dL_law_459 (by decide) h (fun h => ?_) (fun h => ?_)
  · exact (k_L_law_b850 X0 hs ha hk1 ⟨by have := hc.1; omega, hc.2⟩ h)
  · refine g_iconst (v := 0) X dL_law_462 (by decide) ?_
    exact h.elim
theorem k_L_law_b408 {E0 E : Ek} {x0 : MC} {b L k1 : Nat} {ys : Nat → Int32} (X0 : LX E0 x0 b L ys) (hs : Same E0 E) (ha : Apart E) (hk1 : k1 ≤ 1000) {M : Mem} {v3 : Int32} (hc : k1 ≤ 123 + v3.toNatClampNeg ∧ vp_in v3 320) (h : wp_L_law_b408 L ys (fun M v3 => ∀ (E : Ek) (k1 : Nat), Same E0 E → Apart E → k1 ≤ 1000 → k1 ≤ 123 + v3.toNatClampNeg ∧ k1 ≤ 1000 → G E (xkz x0 k1 (xz x0)) M 18 [(0, .ref b), (1, .ref (ad E 0)), (2, .ref (ad E 29)), (3, .int v3)] []) M v3) : G E (xkz x0 k1 (xz x0)) M 408 [(0, .ref b), (1, .ref (ad E 0)), (2, .ref (ad E 29)), (3, .int v3)] [] := by
  have X := X0.1.to hs ha (k := k1) (X0.cl hk1)
  refine g_aload_n X dL_law_408 rfl 1 rfl ?_
  refine g_aload_n X dL_law_409 rfl 0 rfl ?_
  refine g_iload_n X dL_law_410 rfl 3 rfl ?_
  refine g_iconst (v := 1) X dL_law_411 (by decide) ?_
  refine g_iadd X dL_law_412 ?_
  refine g_sld X0 X hs dL_law_413 h (fun hi48 h => ?_)
  refine cl_L_56 X (by decide) (Nat.le_of_ble_eq_true rfl) dL_law_414 h (fun r66 M67 h => ?_)
  refine g_aload_n X dL_law_417 rfl 2 rfl ?_
  refine g_aload_n X dL_law_418 rfl 0 rfl ?_
  refine g_iload_n X dL_law_419 rfl 3 rfl ?_
  refine g_iconst (v := 1) X dL_law_420 (by decide) ?_
  refine g_iadd X dL_law_421 ?_
  refine g_sld X0 X hs dL_law_422 h (fun hi49 h => ?_)
  refine cl_L_59 X (by decide) (Nat.le_of_ble_eq_true rfl) dL_law_423 h (fun r68 M69 h => ?_)
  refine g_icmpeq (tgt := 850) X dL_law_426 (by decide) h (fun h => ?_) (fun h => ?_)
  · exact (k_L_law_b850 X0 hs ha hk1 ⟨by have := hc.1; omega, hc.2⟩ h)
  · refine g_iconst (v := 0) X dL_law_429 (by decide) ?_
    exact h.elim
theorem k_L_law_b375 {E0 E : Ek} {x0 : MC} {b L k1 : Nat} {ys : Nat → Int32} (X0 : LX E0 x0 b L ys) (hs : Same E0 E) (ha : Apart E) (hk1 : k1 ≤ 1000) {M : Mem} {v3 : Int32} (hc : k1 ≤ 123 + v3.toNatClampNeg ∧ vp_in v3 320) (h : wp_L_law_b375 L ys (fun M v3 => ∀ (E : Ek) (k1 : Nat), Same E0 E → Apart E → k1 ≤ 1000 → k1 ≤ 123 + v3.toNatClampNeg ∧ k1 ≤ 1000 → G E (xkz x0 k1 (xz x0)) M 18 [(0, .ref b), (1, .ref (ad E 0)), (2, .ref (ad E 29)), (3, .int v3)] []) M v3) : G E (xkz x0 k1 (xz x0)) M 375 [(0, .ref b), (1, .ref (ad E 0)), (2, .ref (ad E 29)), (3, .int v3)] [] := by
  have X := X0.1.to hs ha (k := k1) (X0.cl hk1)
  refine g_aload_n X dL_law_375 rfl 1 rfl ?_
  refine g_aload_n X dL_law_376 rfl 0 rfl ?_
  refine g_iload_n X dL_law_377 rfl 3 rfl ?_
  refine g_iconst (v := 1) X dL_law_378 (by decide) ?_
  refine g_iadd X dL_law_379 ?_
  refine g_sld X0 X hs dL_law_380 h (fun hi50 h => ?_)
  refine g_aload_n X dL_law_381 rfl 0 rfl ?_
  refine g_iload_n X dL_law_382 rfl 3 rfl ?_
  refine g_iconst (v := 2) X dL_law_383 (by decide) ?_
  refine g_iadd X dL_law_384 ?_
  refine g_sld X0 X hs dL_law_385 h (fun hi51 h => ?_)
  refine cl_L_52 X (by decide) (Nat.le_of_ble_eq_true rfl) dL_law_386 h (fun r70 M71 h => ?_)
  refine g_aload_n X dL_law_389 rfl 2 rfl ?_
  refine g_aload_n X dL_law_390 rfl 0 rfl ?_
  refine g_iload_n X dL_law_391 rfl 3 rfl ?_
  refine g_iconst (v := 1) X dL_law_392 (by decide) ?_
  refine g_iadd X dL_law_393 ?_
  refine g_sld X0 X hs dL_law_394 h (fun hi52 h => ?_)
  refine g_aload_n X dL_law_395 rfl 0 rfl ?_
  refine g_iload_n X dL_law_396 rfl 3 rfl ?_
  refine g_iconst (v := 2) X dL_law_397 (by decide) ?_
  refine g_iadd X dL_law_398 ?_
  refine g_sld X0 X hs dL_law_399 h (fun hi53 h => ?_)
  refine cl_L_55 X (by decide) (Nat.le_of_ble_eq_true rfl) dL_law_400 h (fun r72 M73 h => ?_)
  refine g_icmpeq (tgt := 850) X dL_law_403 (by decide) h (fun h => ?_) (fun h => ?_)
  · exact (k_L_law_b850 X0 hs ha hk1 ⟨by have := hc.1; omega, hc.2⟩ h)
  · refine g_iconst (v := 0) X dL_law_406 (by decide) ?_
    exact h.elim
theorem k_L_law_b342 {E0 E : Ek} {x0 : MC} {b L k1 : Nat} {ys : Nat → Int32} (X0 : LX E0 x0 b L ys) (hs : Same E0 E) (ha : Apart E) (hk1 : k1 ≤ 1000) {M : Mem} {v3 : Int32} (hc : k1 ≤ 123 + v3.toNatClampNeg ∧ vp_in v3 320) (h : wp_L_law_b342 L ys (fun M v3 => ∀ (E : Ek) (k1 : Nat), Same E0 E → Apart E → k1 ≤ 1000 → k1 ≤ 123 + v3.toNatClampNeg ∧ k1 ≤ 1000 → G E (xkz x0 k1 (xz x0)) M 18 [(0, .ref b), (1, .ref (ad E 0)), (2, .ref (ad E 29)), (3, .int v3)] []) M v3) : G E (xkz x0 k1 (xz x0)) M 342 [(0, .ref b), (1, .ref (ad E 0)), (2, .ref (ad E 29)), (3, .int v3)] [] := by
  have X := X0.1.to hs ha (k := k1) (X0.cl hk1)
  refine g_aload_n X dL_law_342 rfl 1 rfl ?_
  refine g_aload_n X dL_law_343 rfl 0 rfl ?_
  refine g_iload_n X dL_law_344 rfl 3 rfl ?_
  refine g_iconst (v := 1) X dL_law_345 (by decide) ?_
  refine g_iadd X dL_law_346 ?_
  refine g_sld X0 X hs dL_law_347 h (fun hi54 h => ?_)
  refine g_aload_n X dL_law_348 rfl 0 rfl ?_
  refine g_iload_n X dL_law_349 rfl 3 rfl ?_
  refine g_iconst (v := 2) X dL_law_350 (by decide) ?_
  refine g_iadd X dL_law_351 ?_
  refine g_sld X0 X hs dL_law_352 h (fun hi55 h => ?_)
  refine cl_L_48 X (by decide) (Nat.le_of_ble_eq_true rfl) dL_law_353 h (fun r74 M75 h => ?_)
  refine g_aload_n X dL_law_356 rfl 2 rfl ?_
  refine g_aload_n X dL_law_357 rfl 0 rfl ?_
  refine g_iload_n X dL_law_358 rfl 3 rfl ?_
  refine g_iconst (v := 1) X dL_law_359 (by decide) ?_
  refine g_iadd X dL_law_360 ?_
  refine g_sld X0 X hs dL_law_361 h (fun hi56 h => ?_)
  refine g_aload_n X dL_law_362 rfl 0 rfl ?_
  refine g_iload_n X dL_law_363 rfl 3 rfl ?_
  refine g_iconst (v := 2) X dL_law_364 (by decide) ?_
  refine g_iadd X dL_law_365 ?_
  refine g_sld X0 X hs dL_law_366 h (fun hi57 h => ?_)
  refine cl_L_51 X (by decide) (Nat.le_of_ble_eq_true rfl) dL_law_367 h (fun r76 M77 h => ?_)
  refine g_icmpeq (tgt := 850) X dL_law_370 (by decide) h (fun h => ?_) (fun h => ?_)
  · exact (k_L_law_b850 X0 hs ha hk1 ⟨by have := hc.1; omega, hc.2⟩ h)
  · refine g_iconst (v := 0) X dL_law_373 (by decide) ?_
    exact h.elim
theorem k_L_law_b309 {E0 E : Ek} {x0 : MC} {b L k1 : Nat} {ys : Nat → Int32} (X0 : LX E0 x0 b L ys) (hs : Same E0 E) (ha : Apart E) (hk1 : k1 ≤ 1000) {M : Mem} {v3 : Int32} (hc : k1 ≤ 123 + v3.toNatClampNeg ∧ vp_in v3 320) (h : wp_L_law_b309 L ys (fun M v3 => ∀ (E : Ek) (k1 : Nat), Same E0 E → Apart E → k1 ≤ 1000 → k1 ≤ 123 + v3.toNatClampNeg ∧ k1 ≤ 1000 → G E (xkz x0 k1 (xz x0)) M 18 [(0, .ref b), (1, .ref (ad E 0)), (2, .ref (ad E 29)), (3, .int v3)] []) M v3) : G E (xkz x0 k1 (xz x0)) M 309 [(0, .ref b), (1, .ref (ad E 0)), (2, .ref (ad E 29)), (3, .int v3)] [] := by
  have X := X0.1.to hs ha (k := k1) (X0.cl hk1)
  refine g_aload_n X dL_law_309 rfl 1 rfl ?_
  refine g_aload_n X dL_law_310 rfl 0 rfl ?_
  refine g_iload_n X dL_law_311 rfl 3 rfl ?_
  refine g_iconst (v := 1) X dL_law_312 (by decide) ?_
  refine g_iadd X dL_law_313 ?_
  refine g_sld X0 X hs dL_law_314 h (fun hi58 h => ?_)
  refine g_aload_n X dL_law_315 rfl 0 rfl ?_
  refine g_iload_n X dL_law_316 rfl 3 rfl ?_
  refine g_iconst (v := 2) X dL_law_317 (by decide) ?_
  refine g_iadd X dL_law_318 ?_
  refine g_sld X0 X hs dL_law_319 h (fun hi59 h => ?_)
  refine cl_L_44 X (by decide) (Nat.le_of_ble_eq_true rfl) dL_law_320 h (fun r78 M79 h => ?_)
  refine g_aload_n X dL_law_323 rfl 2 rfl ?_
  refine g_aload_n X dL_law_324 rfl 0 rfl ?_
  refine g_iload_n X dL_law_325 rfl 3 rfl ?_
  refine g_iconst (v := 1) X dL_law_326 (by decide) ?_
  refine g_iadd X dL_law_327 ?_
  refine g_sld X0 X hs dL_law_328 h (fun hi60 h => ?_)
  refine g_aload_n X dL_law_329 rfl 0 rfl ?_
  refine g_iload_n X dL_law_330 rfl 3 rfl ?_
  refine g_iconst (v := 2) X dL_law_331 (by decide) ?_
  refine g_iadd X dL_law_332 ?_
  refine g_sld X0 X hs dL_law_333 h (fun hi61 h => ?_)
  refine cl_L_47 X (by decide) (Nat.le_of_ble_eq_true rfl) dL_law_334 h (fun r80 M81 h => ?_)
  refine g_icmpeq (tgt := 850) X dL_law_337 (by decide) h (fun h => ?_) (fun h => ?_)
  · exact (k_L_law_b850 X0 hs ha hk1 ⟨by have := hc.1; omega, hc.2⟩ h)
  · refine g_iconst (v := 0) X dL_law_340 (by decide) ?_
    exact h.elim
theorem k_L_law_b276 {E0 E : Ek} {x0 : MC} {b L k1 : Nat} {ys : Nat → Int32} (X0 : LX E0 x0 b L ys) (hs : Same E0 E) (ha : Apart E) (hk1 : k1 ≤ 1000) {M : Mem} {v3 : Int32} (hc : k1 ≤ 123 + v3.toNatClampNeg ∧ vp_in v3 320) (h : wp_L_law_b276 L ys (fun M v3 => ∀ (E : Ek) (k1 : Nat), Same E0 E → Apart E → k1 ≤ 1000 → k1 ≤ 123 + v3.toNatClampNeg ∧ k1 ≤ 1000 → G E (xkz x0 k1 (xz x0)) M 18 [(0, .ref b), (1, .ref (ad E 0)), (2, .ref (ad E 29)), (3, .int v3)] []) M v3) : G E (xkz x0 k1 (xz x0)) M 276 [(0, .ref b), (1, .ref (ad E 0)), (2, .ref (ad E 29)), (3, .int v3)] [] := by
  have X := X0.1.to hs ha (k := k1) (X0.cl hk1)
  refine g_aload_n X dL_law_276 rfl 1 rfl ?_
  refine g_aload_n X dL_law_277 rfl 0 rfl ?_
  refine g_iload_n X dL_law_278 rfl 3 rfl ?_
  refine g_iconst (v := 1) X dL_law_279 (by decide) ?_
  refine g_iadd X dL_law_280 ?_
  refine g_sld X0 X hs dL_law_281 h (fun hi62 h => ?_)
  refine g_aload_n X dL_law_282 rfl 0 rfl ?_
  refine g_iload_n X dL_law_283 rfl 3 rfl ?_
  refine g_iconst (v := 2) X dL_law_284 (by decide) ?_
  refine g_iadd X dL_law_285 ?_
  refine g_sld X0 X hs dL_law_286 h (fun hi63 h => ?_)
  refine cl_L_40 X (by decide) (Nat.le_of_ble_eq_true rfl) dL_law_287 h (fun r82 M83 h => ?_)
  refine g_aload_n X dL_law_290 rfl 2 rfl ?_
  refine g_aload_n X dL_law_291 rfl 0 rfl ?_
  refine g_iload_n X dL_law_292 rfl 3 rfl ?_
  refine g_iconst (v := 1) X dL_law_293 (by decide) ?_
  refine g_iadd X dL_law_294 ?_
  refine g_sld X0 X hs dL_law_295 h (fun hi64 h => ?_)
  refine g_aload_n X dL_law_296 rfl 0 rfl ?_
  refine g_iload_n X dL_law_297 rfl 3 rfl ?_
  refine g_iconst (v := 2) X dL_law_298 (by decide) ?_
  refine g_iadd X dL_law_299 ?_
  refine g_sld X0 X hs dL_law_300 h (fun hi65 h => ?_)
  refine cl_L_43 X (by decide) (Nat.le_of_ble_eq_true rfl) dL_law_301 h (fun r84 M85 h => ?_)
  refine g_icmpeq (tgt := 850) X dL_law_304 (by decide) h (fun h => ?_) (fun h => ?_)
  · exact (k_L_law_b850 X0 hs ha hk1 ⟨by have := hc.1; omega, hc.2⟩ h)
  · refine g_iconst (v := 0) X dL_law_307 (by decide) ?_
    exact h.elim
theorem k_L_law_b243 {E0 E : Ek} {x0 : MC} {b L k1 : Nat} {ys : Nat → Int32} (X0 : LX E0 x0 b L ys) (hs : Same E0 E) (ha : Apart E) (hk1 : k1 ≤ 1000) {M : Mem} {v3 : Int32} (hc : k1 ≤ 123 + v3.toNatClampNeg ∧ vp_in v3 320) (h : wp_L_law_b243 L ys (fun M v3 => ∀ (E : Ek) (k1 : Nat), Same E0 E → Apart E → k1 ≤ 1000 → k1 ≤ 123 + v3.toNatClampNeg ∧ k1 ≤ 1000 → G E (xkz x0 k1 (xz x0)) M 18 [(0, .ref b), (1, .ref (ad E 0)), (2, .ref (ad E 29)), (3, .int v3)] []) M v3) : G E (xkz x0 k1 (xz x0)) M 243 [(0, .ref b), (1, .ref (ad E 0)), (2, .ref (ad E 29)), (3, .int v3)] [] := by
  have X := X0.1.to hs ha (k := k1) (X0.cl hk1)
  refine g_aload_n X dL_law_243 rfl 1 rfl ?_
  refine g_aload_n X dL_law_244 rfl 0 rfl ?_
  refine g_iload_n X dL_law_245 rfl 3 rfl ?_
  refine g_iconst (v := 1) X dL_law_246 (by decide) ?_
  refine g_iadd X dL_law_247 ?_
  refine g_sld X0 X hs dL_law_248 h (fun hi66 h => ?_)
  refine g_aload_n X dL_law_249 rfl 0 rfl ?_
  refine g_iload_n X dL_law_250 rfl 3 rfl ?_
  refine g_iconst (v := 2) X dL_law_251 (by decide) ?_
  refine g_iadd X dL_law_252 ?_
  refine g_sld X0 X hs dL_law_253 h (fun hi67 h => ?_)
  refine cl_L_36 X (by decide) (Nat.le_of_ble_eq_true rfl) dL_law_254 h (fun r86 M87 h => ?_)
  refine g_aload_n X dL_law_257 rfl 2 rfl ?_
  refine g_aload_n X dL_law_258 rfl 0 rfl ?_
  refine g_iload_n X dL_law_259 rfl 3 rfl ?_
  refine g_iconst (v := 1) X dL_law_260 (by decide) ?_
  refine g_iadd X dL_law_261 ?_
  refine g_sld X0 X hs dL_law_262 h (fun hi68 h => ?_)
  refine g_aload_n X dL_law_263 rfl 0 rfl ?_
  refine g_iload_n X dL_law_264 rfl 3 rfl ?_
  refine g_iconst (v := 2) X dL_law_265 (by decide) ?_
  refine g_iadd X dL_law_266 ?_
  refine g_sld X0 X hs dL_law_267 h (fun hi69 h => ?_)
  refine cl_L_39 X (by decide) (Nat.le_of_ble_eq_true rfl) dL_law_268 h (fun r88 M89 h => ?_)
  refine g_icmpeq (tgt := 850) X dL_law_271 (by decide) h (fun h => ?_) (fun h => ?_)
  · exact (k_L_law_b850 X0 hs ha hk1 ⟨by have := hc.1; omega, hc.2⟩ h)
  · refine g_iconst (v := 0) X dL_law_274 (by decide) ?_
    exact h.elim
theorem k_L_law_b210 {E0 E : Ek} {x0 : MC} {b L k1 : Nat} {ys : Nat → Int32} (X0 : LX E0 x0 b L ys) (hs : Same E0 E) (ha : Apart E) (hk1 : k1 ≤ 1000) {M : Mem} {v3 : Int32} (hc : k1 ≤ 123 + v3.toNatClampNeg ∧ vp_in v3 320) (h : wp_L_law_b210 L ys (fun M v3 => ∀ (E : Ek) (k1 : Nat), Same E0 E → Apart E → k1 ≤ 1000 → k1 ≤ 123 + v3.toNatClampNeg ∧ k1 ≤ 1000 → G E (xkz x0 k1 (xz x0)) M 18 [(0, .ref b), (1, .ref (ad E 0)), (2, .ref (ad E 29)), (3, .int v3)] []) M v3) : G E (xkz x0 k1 (xz x0)) M 210 [(0, .ref b), (1, .ref (ad E 0)), (2, .ref (ad E 29)), (3, .int v3)] [] := by
  have X := X0.1.to hs ha (k := k1) (X0.cl hk1)
  refine g_aload_n X dL_law_210 rfl 1 rfl ?_
  refine g_aload_n X dL_law_211 rfl 0 rfl ?_
  refine g_iload_n X dL_law_212 rfl 3 rfl ?_
  refine g_iconst (v := 1) X dL_law_213 (by decide) ?_
  refine g_iadd X dL_law_214 ?_
  refine g_sld X0 X hs dL_law_215 h (fun hi70 h => ?_)
  refine g_aload_n X dL_law_216 rfl 0 rfl ?_
  refine g_iload_n X dL_law_217 rfl 3 rfl ?_
  refine g_iconst (v := 2) X dL_law_218 (by decide) ?_
  refine g_iadd X dL_law_219 ?_
  refine g_sld X0 X hs dL_law_220 h (fun hi71 h => ?_)
  refine cl_L_31 X (by decide) (Nat.le_of_ble_eq_true rfl) dL_law_221 h (fun r90 M91 h => ?_)
  refine g_aload_n X dL_law_224 rfl 2 rfl ?_
  refine g_aload_n X dL_law_225 rfl 0 rfl ?_
  refine g_iload_n X dL_law_226 rfl 3 rfl ?_
  refine g_iconst (v := 1) X dL_law_227 (by decide) ?_
  refine g_iadd X dL_law_228 ?_
  refine g_sld X0 X hs dL_law_229 h (fun hi72 h => ?_)
  refine g_aload_n X dL_law_230 rfl 0 rfl ?_
  refine g_iload_n X dL_law_231 rfl 3 rfl ?_
  refine g_iconst (v := 2) X dL_law_232 (by decide) ?_
  refine g_iadd X dL_law_233 ?_
  refine g_sld X0 X hs dL_law_234 h (fun hi73 h => ?_)
  refine cl_L_35 X (by decide) (Nat.le_of_ble_eq_true rfl) dL_law_235 h (fun r92 M93 h => ?_)
  refine g_icmpeq (tgt := 850) X dL_law_238 (by decide) h (fun h => ?_) (fun h => ?_)
  · exact (k_L_law_b850 X0 hs ha hk1 ⟨by have := hc.1; omega, hc.2⟩ h)
  · refine g_iconst (v := 0) X dL_law_241 (by decide) ?_
    exact h.elim
theorem k_L_law_b201 {E0 E : Ek} {x0 : MC} {b L k1 : Nat} {ys : Nat → Int32} (X0 : LX E0 x0 b L ys) (hs : Same E0 E) (ha : Apart E) (hk1 : k1 ≤ 1000) {M : Mem} {v3 : Int32} {s0 : Int32} (hc : k1 ≤ 127 + v3.toNatClampNeg ∧ vp_in v3 320) (h : wp_L_law_b201 L ys (fun M v3 => ∀ (E : Ek) (k1 : Nat), Same E0 E → Apart E → k1 ≤ 1000 → k1 ≤ 123 + v3.toNatClampNeg ∧ k1 ≤ 1000 → G E (xkz x0 k1 (xz x0)) M 18 [(0, .ref b), (1, .ref (ad E 0)), (2, .ref (ad E 29)), (3, .int v3)] []) M v3 s0) : G E (xkz x0 k1 (xz x0)) M 201 [(0, .ref b), (1, .ref (ad E 0)), (2, .ref (ad E 29)), (3, .int v3)] [.int s0] := by
  have X := X0.1.to hs ha (k := k1) (X0.cl hk1)
  refine g_aload_n X dL_law_201 rfl 2 rfl ?_
  refine cl_L_30 X (by decide) (Nat.le_of_ble_eq_true rfl) dL_law_202 h (fun r96 M97 h => ?_)
  refine g_icmpeq (tgt := 850) X dL_law_205 (by decide) h (fun h => ?_) (fun h => ?_)
  · exact (k_L_law_b850 X0 hs ha hk1 hc h)
  · refine g_iconst (v := 0) X dL_law_208 (by decide) ?_
    exact h.elim
theorem k_L_law_b197 {E0 E : Ek} {x0 : MC} {b L k1 : Nat} {ys : Nat → Int32} (X0 : LX E0 x0 b L ys) (hs : Same E0 E) (ha : Apart E) (hk1 : k1 ≤ 1000) {M : Mem} {v3 : Int32} (hc : k1 ≤ 123 + v3.toNatClampNeg ∧ vp_in v3 320) (h : wp_L_law_b197 L ys (fun M v3 => ∀ (E : Ek) (k1 : Nat), Same E0 E → Apart E → k1 ≤ 1000 → k1 ≤ 123 + v3.toNatClampNeg ∧ k1 ≤ 1000 → G E (xkz x0 k1 (xz x0)) M 18 [(0, .ref b), (1, .ref (ad E 0)), (2, .ref (ad E 29)), (3, .int v3)] []) M v3) : G E (xkz x0 k1 (xz x0)) M 197 [(0, .ref b), (1, .ref (ad E 0)), (2, .ref (ad E 29)), (3, .int v3)] [] := by
  have X := X0.1.to hs ha (k := k1) (X0.cl hk1)
  refine g_aload_n X dL_law_197 rfl 1 rfl ?_
  have hlt := vp_lt hc.2
  refine g_callH X (by decide) (Nat.le_of_ble_eq_true rfl) (show k1 + 4 ≤ (xR x0).cells from X0.cl (by have := hc.1; omega)) dL_law_198 h (fun F r94 M95 hs2 ha2 h => ?_)
  have e0 := hs2.2.2.2.2.2 0 (by unfold Prs; omega)
  have e29 := hs2.2.2.2.2.2 29 (by unfold Prs; omega)
  have t := k_L_law_b201 X0 (hs.tr hs2) ha2 (show k1 + 4 ≤ 1000 from by have := hc.1; omega) ⟨by have := hc.1; omega, hc.2⟩ h
  rw [e0, e29] at t
  exact t
theorem k_L_law_b184 {E0 E : Ek} {x0 : MC} {b L k1 : Nat} {ys : Nat → Int32} (X0 : LX E0 x0 b L ys) (hs : Same E0 E) (ha : Apart E) (hk1 : k1 ≤ 1000) {M : Mem} {v3 : Int32} (hc : k1 ≤ 123 + v3.toNatClampNeg ∧ vp_in v3 320) (h : wp_L_law_b184 L ys (fun M v3 => ∀ (E : Ek) (k1 : Nat), Same E0 E → Apart E → k1 ≤ 1000 → k1 ≤ 123 + v3.toNatClampNeg ∧ k1 ≤ 1000 → G E (xkz x0 k1 (xz x0)) M 18 [(0, .ref b), (1, .ref (ad E 0)), (2, .ref (ad E 29)), (3, .int v3)] []) M v3) : G E (xkz x0 k1 (xz x0)) M 184 [(0, .ref b), (1, .ref (ad E 0)), (2, .ref (ad E 29)), (3, .int v3)] [] := by
  have X := X0.1.to hs ha (k := k1) (X0.cl hk1)
  refine g_aload_n X dL_law_184 rfl 1 rfl ?_
  refine cl_L_23 X (by decide) (Nat.le_of_ble_eq_true rfl) dL_law_185 h (fun r98 M99 h => ?_)
  refine g_aload_n X dL_law_188 rfl 2 rfl ?_
  refine cl_L_26 X (by decide) (Nat.le_of_ble_eq_true rfl) dL_law_189 h (fun r100 M101 h => ?_)
  refine g_icmpeq (tgt := 850) X dL_law_192 (by decide) h (fun h => ?_) (fun h => ?_)
  · exact (k_L_law_b850 X0 hs ha hk1 ⟨by have := hc.1; omega, hc.2⟩ h)
  · refine g_iconst (v := 0) X dL_law_195 (by decide) ?_
    exact h.elim
theorem k_L_law_b171 {E0 E : Ek} {x0 : MC} {b L k1 : Nat} {ys : Nat → Int32} (X0 : LX E0 x0 b L ys) (hs : Same E0 E) (ha : Apart E) (hk1 : k1 ≤ 1000) {M : Mem} {v3 : Int32} (hc : k1 ≤ 123 + v3.toNatClampNeg ∧ vp_in v3 320) (h : wp_L_law_b171 L ys (fun M v3 => ∀ (E : Ek) (k1 : Nat), Same E0 E → Apart E → k1 ≤ 1000 → k1 ≤ 123 + v3.toNatClampNeg ∧ k1 ≤ 1000 → G E (xkz x0 k1 (xz x0)) M 18 [(0, .ref b), (1, .ref (ad E 0)), (2, .ref (ad E 29)), (3, .int v3)] []) M v3) : G E (xkz x0 k1 (xz x0)) M 171 [(0, .ref b), (1, .ref (ad E 0)), (2, .ref (ad E 29)), (3, .int v3)] [] := by
  have X := X0.1.to hs ha (k := k1) (X0.cl hk1)
  refine g_aload_n X dL_law_171 rfl 1 rfl ?_
  refine cl_L_18 X (by decide) (Nat.le_of_ble_eq_true rfl) dL_law_172 h (fun r102 M103 h => ?_)
  refine g_aload_n X dL_law_175 rfl 2 rfl ?_
  refine cl_L_22 X (by decide) (Nat.le_of_ble_eq_true rfl) dL_law_176 h (fun r104 M105 h => ?_)
  refine g_icmpeq (tgt := 850) X dL_law_179 (by decide) h (fun h => ?_) (fun h => ?_)
  · exact (k_L_law_b850 X0 hs ha hk1 ⟨by have := hc.1; omega, hc.2⟩ h)
  · refine g_iconst (v := 0) X dL_law_182 (by decide) ?_
    exact h.elim
theorem k_L_law_b148 {E0 E : Ek} {x0 : MC} {b L k1 : Nat} {ys : Nat → Int32} (X0 : LX E0 x0 b L ys) (hs : Same E0 E) (ha : Apart E) (hk1 : k1 ≤ 1000) {M : Mem} {v3 : Int32} (hc : k1 ≤ 123 + v3.toNatClampNeg ∧ vp_in v3 320) (h : wp_L_law_b148 L ys (fun M v3 => ∀ (E : Ek) (k1 : Nat), Same E0 E → Apart E → k1 ≤ 1000 → k1 ≤ 123 + v3.toNatClampNeg ∧ k1 ≤ 1000 → G E (xkz x0 k1 (xz x0)) M 18 [(0, .ref b), (1, .ref (ad E 0)), (2, .ref (ad E 29)), (3, .int v3)] []) M v3) : G E (xkz x0 k1 (xz x0)) M 148 [(0, .ref b), (1, .ref (ad E 0)), (2, .ref (ad E 29)), (3, .int v3)] [] := by
  have X := X0.1.to hs ha (k := k1) (X0.cl hk1)
  refine g_aload_n X dL_law_148 rfl 1 rfl ?_
  refine g_aload_n X dL_law_149 rfl 0 rfl ?_
  refine g_iload_n X dL_law_150 rfl 3 rfl ?_
  refine g_iconst (v := 1) X dL_law_151 (by decide) ?_
  refine g_iadd X dL_law_152 ?_
  refine g_sld X0 X hs dL_law_153 h (fun hi74 h => ?_)
  refine cl_L_13 X (by decide) (Nat.le_of_ble_eq_true rfl) dL_law_154 h (fun r106 M107 h => ?_)
  refine g_aload_n X dL_law_157 rfl 2 rfl ?_
  refine g_aload_n X dL_law_158 rfl 0 rfl ?_
  refine g_iload_n X dL_law_159 rfl 3 rfl ?_
  refine g_iconst (v := 1) X dL_law_160 (by decide) ?_
  refine g_iadd X dL_law_161 ?_
  refine g_sld X0 X hs dL_law_162 h (fun hi75 h => ?_)
  refine cl_L_17 X (by decide) (Nat.le_of_ble_eq_true rfl) dL_law_163 h (fun r108 M109 h => ?_)
  refine g_icmpeq (tgt := 850) X dL_law_166 (by decide) h (fun h => ?_) (fun h => ?_)
  · exact (k_L_law_b850 X0 hs ha hk1 ⟨by have := hc.1; omega, hc.2⟩ h)
  · refine g_iconst (v := 0) X dL_law_169 (by decide) ?_
    exact h.elim
theorem k_L_law_b18 {E0 E : Ek} {x0 : MC} {b L k1 : Nat} {ys : Nat → Int32} (X0 : LX E0 x0 b L ys) (hs : Same E0 E) (ha : Apart E) (hk1 : k1 ≤ 1000) {M : Mem} {v3 : Int32} (hc : k1 ≤ 123 + v3.toNatClampNeg ∧ k1 ≤ 1000) (h : wp_L_law_b18 L ys (fun M v3 => ∀ (E : Ek) (k1 : Nat), Same E0 E → Apart E → k1 ≤ 1000 → k1 ≤ 123 + v3.toNatClampNeg ∧ k1 ≤ 1000 → G E (xkz x0 k1 (xz x0)) M 18 [(0, .ref b), (1, .ref (ad E 0)), (2, .ref (ad E 29)), (3, .int v3)] []) M v3) : G E (xkz x0 k1 (xz x0)) M 18 [(0, .ref b), (1, .ref (ad E 0)), (2, .ref (ad E 29)), (3, .int v3)] [] := by
  have X := X0.1.to hs ha (k := k1) (X0.cl hk1)
  refine g_iload_n X dL_law_18 rfl 3 rfl ?_
  refine g_aload_n X dL_law_19 rfl 0 rfl ?_
  refine g_slen X0 X hs dL_law_20 ?_
  refine g_iconst (v := 5) X dL_law_21 (by decide) ?_
  refine g_isub X dL_law_22 ?_
  refine g_icmpgt (tgt := 856) X dL_law_23 (by decide) h (fun h => ?_) (fun h => ?_)
  · refine g_iconst (v := 1) X dL_law_856 (by decide) ?_
    exact g_lret1 X0 X hs hk1 dL_law_857
  · refine g_aload_n X dL_law_26 rfl 0 rfl ?_
    refine g_iload_n X dL_law_27 rfl 3 rfl ?_
    refine g_sld X0 X hs dL_law_28 h (fun hi0 h => ?_)
    refine g_bipush (v := 31) X dL_law_29 (by decide) ?_
    refine g_iand X dL_law_31 ?_
    by_cases c0 : ((ys v3.toNatClampNeg) &&& 31) = 0
    · have h := h.1 c0
      refine g_tabI (tgt := 148) X dL_law_32 c0 ⟨⟨by decide, by decide⟩, rfl⟩ (by decide) ?_
      exact (k_L_law_b148 X0 hs ha hk1 ⟨hc.1, vp_mono hi0 X0.2.2.2.2.2.2.2.2.2⟩ h)
    by_cases c1 : ((ys v3.toNatClampNeg) &&& 31) = 1
    · have h := h.2.1 c1
      refine g_tabI (tgt := 171) X dL_law_32 c1 ⟨⟨by decide, by decide⟩, rfl⟩ (by decide) ?_
      exact (k_L_law_b171 X0 hs ha hk1 ⟨hc.1, vp_mono hi0 X0.2.2.2.2.2.2.2.2.2⟩ h)
    by_cases c2 : ((ys v3.toNatClampNeg) &&& 31) = 2
    · have h := h.2.2.1 c2
      refine g_tabI (tgt := 184) X dL_law_32 c2 ⟨⟨by decide, by decide⟩, rfl⟩ (by decide) ?_
      exact (k_L_law_b184 X0 hs ha hk1 ⟨hc.1, vp_mono hi0 X0.2.2.2.2.2.2.2.2.2⟩ h)
    by_cases c3 : ((ys v3.toNatClampNeg) &&& 31) = 3
    · have h := h.2.2.2.1 c3
      refine g_tabI (tgt := 197) X dL_law_32 c3 ⟨⟨by decide, by decide⟩, rfl⟩ (by decide) ?_
      exact (k_L_law_b197 X0 hs ha hk1 ⟨hc.1, vp_mono hi0 X0.2.2.2.2.2.2.2.2.2⟩ h)
    by_cases c4 : ((ys v3.toNatClampNeg) &&& 31) = 4
    · have h := h.2.2.2.2.1 c4
      refine g_tabI (tgt := 210) X dL_law_32 c4 ⟨⟨by decide, by decide⟩, rfl⟩ (by decide) ?_
      exact (k_L_law_b210 X0 hs ha hk1 ⟨hc.1, vp_mono hi0 X0.2.2.2.2.2.2.2.2.2⟩ h)
    by_cases c5 : ((ys v3.toNatClampNeg) &&& 31) = 5
    · have h := h.2.2.2.2.2.1 c5
      refine g_tabI (tgt := 243) X dL_law_32 c5 ⟨⟨by decide, by decide⟩, rfl⟩ (by decide) ?_
      exact (k_L_law_b243 X0 hs ha hk1 ⟨hc.1, vp_mono hi0 X0.2.2.2.2.2.2.2.2.2⟩ h)
    by_cases c6 : ((ys v3.toNatClampNeg) &&& 31) = 6
    · have h := h.2.2.2.2.2.2.1 c6
      refine g_tabI (tgt := 276) X dL_law_32 c6 ⟨⟨by decide, by decide⟩, rfl⟩ (by decide) ?_
      exact (k_L_law_b276 X0 hs ha hk1 ⟨hc.1, vp_mono hi0 X0.2.2.2.2.2.2.2.2.2⟩ h)
    by_cases c7 : ((ys v3.toNatClampNeg) &&& 31) = 7
    · have h := h.2.2.2.2.2.2.2.1 c7
      refine g_tabI (tgt := 309) X dL_law_32 c7 ⟨⟨by decide, by decide⟩, rfl⟩ (by decide) ?_
      exact (k_L_law_b309 X0 hs ha hk1 ⟨hc.1, vp_mono hi0 X0.2.2.2.2.2.2.2.2.2⟩ h)
    by_cases c8 : ((ys v3.toNatClampNeg) &&& 31) = 8
    · have h := h.2.2.2.2.2.2.2.2.1 c8
      refine g_tabI (tgt := 342) X dL_law_32 c8 ⟨⟨by decide, by decide⟩, rfl⟩ (by decide) ?_
      exact (k_L_law_b342 X0 hs ha hk1 ⟨hc.1, vp_mono hi0 X0.2.2.2.2.2.2.2.2.2⟩ h)
    by_cases c9 : ((ys v3.toNatClampNeg) &&& 31) = 9
    · have h := h.2.2.2.2.2.2.2.2.2.1 c9
      refine g_tabI (tgt := 375) X dL_law_32 c9 ⟨⟨by decide, by decide⟩, rfl⟩ (by decide) ?_
      exact (k_L_law_b375 X0 hs ha hk1 ⟨hc.1, vp_mono hi0 X0.2.2.2.2.2.2.2.2.2⟩ h)
    by_cases c10 : ((ys v3.toNatClampNeg) &&& 31) = 10
    · have h := h.2.2.2.2.2.2.2.2.2.2.1 c10
      refine g_tabI (tgt := 408) X dL_law_32 c10 ⟨⟨by decide, by decide⟩, rfl⟩ (by decide) ?_
      exact (k_L_law_b408 X0 hs ha hk1 ⟨hc.1, vp_mono hi0 X0.2.2.2.2.2.2.2.2.2⟩ h)
    by_cases c11 : ((ys v3.toNatClampNeg) &&& 31) = 11
    · have h := h.2.2.2.2.2.2.2.2.2.2.2.1 c11
      refine g_tabI (tgt := 431) X dL_law_32 c11 ⟨⟨by decide, by decide⟩, rfl⟩ (by decide) ?_
      exact (k_L_law_b431 X0 hs ha hk1 ⟨hc.1, vp_mono hi0 X0.2.2.2.2.2.2.2.2.2⟩ h)
    by_cases c12 : ((ys v3.toNatClampNeg) &&& 31) = 12
    · have h := h.2.2.2.2.2.2.2.2.2.2.2.2.1 c12
      refine g_tabI (tgt := 464) X dL_law_32 c12 ⟨⟨by decide, by decide⟩, rfl⟩ (by decide) ?_
      exact (k_L_law_b464 X0 hs ha hk1 ⟨hc.1, vp_mono hi0 X0.2.2.2.2.2.2.2.2.2⟩ h)
    by_cases c13 : ((ys v3.toNatClampNeg) &&& 31) = 13
    · have h := h.2.2.2.2.2.2.2.2.2.2.2.2.2.1 c13
      refine g_tabI (tgt := 497) X dL_law_32 c13 ⟨⟨by decide, by decide⟩, rfl⟩ (by decide) ?_
      exact (k_L_law_b497 X0 hs ha hk1 ⟨hc.1, vp_mono hi0 X0.2.2.2.2.2.2.2.2.2⟩ h)
    by_cases c14 : ((ys v3.toNatClampNeg) &&& 31) = 14
    · have h := h.2.2.2.2.2.2.2.2.2.2.2.2.2.2.1 c14
      refine g_tabI (tgt := 540) X dL_law_32 c14 ⟨⟨by decide, by decide⟩, rfl⟩ (by decide) ?_
      exact (k_L_law_b540 X0 hs ha hk1 ⟨hc.1, vp_mono hi0 X0.2.2.2.2.2.2.2.2.2⟩ h)
    by_cases c15 : ((ys v3.toNatClampNeg) &&& 31) = 15
    · have h := h.2.2.2.2.2.2.2.2.2.2.2.2.2.2.2.1 c15
      refine g_tabI (tgt := 583) X dL_law_32 c15 ⟨⟨by decide, by decide⟩, rfl⟩ (by decide) ?_
      exact (k_L_law_b583 X0 hs ha hk1 ⟨hc.1, vp_mono hi0 X0.2.2.2.2.2.2.2.2.2⟩ h)
    by_cases c16 : ((ys v3.toNatClampNeg) &&& 31) = 16
    · have h := h.2.2.2.2.2.2.2.2.2.2.2.2.2.2.2.2.1 c16
      refine g_tabI (tgt := 616) X dL_law_32 c16 ⟨⟨by decide, by decide⟩, rfl⟩ (by decide) ?_
      exact (k_L_law_b616 X0 hs ha hk1 ⟨hc.1, vp_mono hi0 X0.2.2.2.2.2.2.2.2.2⟩ h)
    by_cases c17 : ((ys v3.toNatClampNeg) &&& 31) = 17
    · have h := h.2.2.2.2.2.2.2.2.2.2.2.2.2.2.2.2.2.1 c17
      refine g_tabI (tgt := 629) X dL_law_32 c17 ⟨⟨by decide, by decide⟩, rfl⟩ (by decide) ?_
      exact (k_L_law_b629 X0 hs ha hk1 ⟨hc.1, vp_mono hi0 X0.2.2.2.2.2.2.2.2.2⟩ h)
    by_cases c18 : ((ys v3.toNatClampNeg) &&& 31) = 18
    · have h := h.2.2.2.2.2.2.2.2.2.2.2.2.2.2.2.2.2.2.1 c18
      refine g_tabI (tgt := 682) X dL_law_32 c18 ⟨⟨by decide, by decide⟩, rfl⟩ (by decide) ?_
      exact (k_L_law_b682 X0 hs ha hk1 ⟨hc.1, vp_mono hi0 X0.2.2.2.2.2.2.2.2.2⟩ h)
    by_cases c19 : ((ys v3.toNatClampNeg) &&& 31) = 19
    · have h := h.2.2.2.2.2.2.2.2.2.2.2.2.2.2.2.2.2.2.2.1 c19
      refine g_tabI (tgt := 731) X dL_law_32 c19 ⟨⟨by decide, by decide⟩, rfl⟩ (by decide) ?_
      exact (k_L_law_b731 X0 hs ha hk1 ⟨hc.1, vp_mono hi0 X0.2.2.2.2.2.2.2.2.2⟩ h)
    by_cases c20 : ((ys v3.toNatClampNeg) &&& 31) = 20
    · have h := h.2.2.2.2.2.2.2.2.2.2.2.2.2.2.2.2.2.2.2.2.1 c20
      refine g_tabI (tgt := 744) X dL_law_32 c20 ⟨⟨by decide, by decide⟩, rfl⟩ (by decide) ?_
      exact (k_L_law_b744 X0 hs ha hk1 ⟨hc.1, vp_mono hi0 X0.2.2.2.2.2.2.2.2.2⟩ h)
    by_cases c21 : ((ys v3.toNatClampNeg) &&& 31) = 21
    · have h := h.2.2.2.2.2.2.2.2.2.2.2.2.2.2.2.2.2.2.2.2.2.1 c21
      refine g_tabI (tgt := 787) X dL_law_32 c21 ⟨⟨by decide, by decide⟩, rfl⟩ (by decide) ?_
      exact (k_L_law_b787 X0 hs ha hk1 ⟨hc.1, vp_mono hi0 X0.2.2.2.2.2.2.2.2.2⟩ h)
    by_cases c22 : ((ys v3.toNatClampNeg) &&& 31) = 22
    · have h := h.2.2.2.2.2.2.2.2.2.2.2.2.2.2.2.2.2.2.2.2.2.2.1 c22
      refine g_tabI (tgt := 800) X dL_law_32 c22 ⟨⟨by decide, by decide⟩, rfl⟩ (by decide) ?_
      exact (k_L_law_b800 X0 hs ha hk1 ⟨hc.1, vp_mono hi0 X0.2.2.2.2.2.2.2.2.2⟩ h)
    by_cases c23 : ((ys v3.toNatClampNeg) &&& 31) = 23
    · have h := h.2.2.2.2.2.2.2.2.2.2.2.2.2.2.2.2.2.2.2.2.2.2.2.1 c23
      refine g_tabI (tgt := 813) X dL_law_32 c23 ⟨⟨by decide, by decide⟩, rfl⟩ (by decide) ?_
      exact (k_L_law_b813 X0 hs ha hk1 ⟨hc.1, vp_mono hi0 X0.2.2.2.2.2.2.2.2.2⟩ h)
    by_cases c24 : ((ys v3.toNatClampNeg) &&& 31) = 24
    · have h := h.2.2.2.2.2.2.2.2.2.2.2.2.2.2.2.2.2.2.2.2.2.2.2.2.1 c24
      refine g_tabI (tgt := 836) X dL_law_32 c24 ⟨⟨by decide, by decide⟩, rfl⟩ (by decide) ?_
      exact (k_L_law_b836 X0 hs ha hk1 ⟨hc.1, vp_mono hi0 X0.2.2.2.2.2.2.2.2.2⟩ h)
    have h := h.2.2.2.2.2.2.2.2.2.2.2.2.2.2.2.2.2.2.2.2.2.2.2.2.2 c0 c1 c2 c3 c4 c5 c6 c7 c8 c9 c10 c11 c12 c13 c14 c15 c16 c17 c18 c19 c20 c21 c22 c23 c24
    refine g_tabO (tgt := 850) X dL_law_32 (by have e0 := lv_neT (a := 0) c0 (by decide); have e1 := lv_neT (a := 1) c1 (by decide); have e2 := lv_neT (a := 2) c2 (by decide); have e3 := lv_neT (a := 3) c3 (by decide); have e4 := lv_neT (a := 4) c4 (by decide); have e5 := lv_neT (a := 5) c5 (by decide); have e6 := lv_neT (a := 6) c6 (by decide); have e7 := lv_neT (a := 7) c7 (by decide); have e8 := lv_neT (a := 8) c8 (by decide); have e9 := lv_neT (a := 9) c9 (by decide); have e10 := lv_neT (a := 10) c10 (by decide); have e11 := lv_neT (a := 11) c11 (by decide); have e12 := lv_neT (a := 12) c12 (by decide); have e13 := lv_neT (a := 13) c13 (by decide); have e14 := lv_neT (a := 14) c14 (by decide); have e15 := lv_neT (a := 15) c15 (by decide); have e16 := lv_neT (a := 16) c16 (by decide); have e17 := lv_neT (a := 17) c17 (by decide); have e18 := lv_neT (a := 18) c18 (by decide); have e19 := lv_neT (a := 19) c19 (by decide); have e20 := lv_neT (a := 20) c20 (by decide); have e21 := lv_neT (a := 21) c21 (by decide); have e22 := lv_neT (a := 22) c22 (by decide); have e23 := lv_neT (a := 23) c23 (by decide); have e24 := lv_neT (a := 24) c24 (by decide); omega) (by decide) ?_
    exact (k_L_law_b850 X0 hs ha hk1 ⟨by have := hc.1; omega, vp_mono hi0 X0.2.2.2.2.2.2.2.2.2⟩ h)
theorem k_L_law {E0 E : Ek} {x0 : MC} {b L k1 : Nat} {ys : Nat → Int32} (X0 : LX E0 x0 b L ys) (hs : Same E0 E) (ha : Apart E) (hk1 : k1 ≤ 123) {M : Mem} (h : wp_L_law L ys M) : G E (xkz x0 k1 (xz x0)) M 18 [(0, .ref b), (1, .ref (ad E 0)), (2, .ref (ad E 29)), (3, .int 0)] [] :=
  h (fun M v3 => ∀ (E : Ek) (k1 : Nat), Same E0 E → Apart E → k1 ≤ 1000 → k1 ≤ 123 + v3.toNatClampNeg ∧ k1 ≤ 1000 → G E (xkz x0 k1 (xz x0)) M 18 [(0, .ref b), (1, .ref (ad E 0)), (2, .ref (ad E 29)), (3, .int v3)] []) (fun M v3 h E k1 hs ha hk1 hc => k_L_law_b18 X0 hs ha hk1 hc h) E k1 hs ha (by omega) ⟨by omega, by omega⟩
