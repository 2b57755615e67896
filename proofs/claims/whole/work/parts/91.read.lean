/-! ===== house: what the class reads ===== -/
def fl (M M' : Mem) (q i : Nat) (V : Nat → Int32) : Prop := ∀ j, rd M' q j = if j < i then V j else rd M q j
theorem fl0 {M M' : Mem} {q : Nat} {V : Nat → Int32} (h : ∀ j, rd M' q j = rd M q j) : fl M M' q 0 V := fun j => by rw [if_neg (Nat.not_lt_zero _)]; exact h j
theorem fl_step {M M' M'' : Mem} {q i : Nat} {V : Nat → Int32} {v : Int32} (h : fl M M' q i V) (hv : v = V i) (hs : ∀ j, rd M'' q j = if j = i then v else rd M' q j) : fl M M'' q (i + 1) V := fun j => by
  rw [hs j]
  by_cases e : j = i
  · subst e
    rw [if_pos rfl, if_pos (by omega), hv]
  · rw [if_neg e, h j]
    by_cases e2 : j < i
    · rw [if_pos e2, if_pos (by omega)]
    · rw [if_neg e2, if_neg (by omega)]
theorem fl_to {M M' M'' : Mem} {q i : Nat} {V : Nat → Int32} (h : fl M M' q i V) (hs : ∀ j, rd M'' q j = rd M' q j) : fl M M'' q i V := fun j => (hs j).trans (h j)
theorem fl_of {M0 M M' : Mem} {q i : Nat} {V : Nat → Int32} (h : fl M M' q i V) (hs : ∀ j, rd M q j = rd M0 q j) : fl M0 M' q i V := fun j => by rw [h j, hs j]
def DV (lt : Nat → Nat) (p : Nat) : Int32 := nI (lt p - 48)
def lkV (x : Nat) : Int32 := if x = 111 then -1 else nI (x - 97)
theorem c_dat {Post : Int32 → Mem → Prop} {M : Mem} {lt : Nat → Nat} {x : Nat} (hx : x < 64) (h : rd M 2 x = nI (lt x)) (hy : 48 ≤ lt x) (k : Post (DV lt x) M) : wp_X6_digitAt Post M (nI x) := by
  refine ⟨fun z => absurd z (nI_pos (by omega)), fun _ => ⟨fun z => absurd z (le_n (n := 64) (by omega) hx), fun _ => ⟨vp_in_nI hx (by omega), ?_⟩⟩⟩
  have e : nI (lt x) - 48 = nI (lt x - 48) := pk_sub (b := 48) hy
  rw [cl4 (by omega), h, e]
  exact k
theorem c_pin {Post : Int32 → Mem → Prop} {M : Mem} {lt : Nat → Nat} {q x : Nat} (hq : q < 2) (hx : x < 64) (h : rd M 2 x = nI (lt x)) (hy : lt x < 127) (k : Post (ixU q (lt x)) M) : wp_X6_placeIn Post M q (nI x) := by
  refine ⟨fun z => absurd z (nI_pos (by omega)), fun _ => ⟨fun z => absurd z (le_n (n := 64) (by omega) hx), fun _ => ⟨vp_in_nI hx (by omega), ?_⟩⟩⟩
  rw [cl4 (by omega), h, ch_all _ hy]
  exact sp_index hq hy k
theorem lk_eq {x : Nat} (h : x = 111 ∨ x = 97 ∨ x = 98) : ixU 0 x - 1 = lkV x := by
  rcases h with rfl | rfl | rfl <;> decide
theorem po_1 (i : Nat) : (2 : Int32) + (4 : Int32) * nI i = nI (2 + 4 * i) := by
  have e : (4 : Int32) * nI i = nI (4 * i) := pk_mul 4 i
  rw [e]
  exact nI_add 2 (4 * i)
theorem po_4 (b i : Nat) : nI b + (4 : Int32) * nI i = nI (b + 4 * i) := by
  have e : (4 : Int32) * nI i = nI (4 * i) := pk_mul 4 i
  rw [e]
  exact nI_add b (4 * i)
theorem po_5 (b i : Nat) : nI b + (5 : Int32) * nI i = nI (b + 5 * i) := by
  have e : (5 : Int32) * nI i = nI (5 * i) := pk_mul 5 i
  rw [e]
  exact nI_add b (5 * i)
theorem po_p2 (b : Nat) : nI b + 2 = nI (b + 2) := nI_add b 2
theorem po_p3 (b : Nat) : nI b + 3 = nI (b + 3) := nI_add b 3
/-- the letters and the counts of a whole page, on the class's side -/
def WC (lt : Nat → Nat) (l R dr pe de : Nat) (M : Mem) : Prop := rd M 1 7 = nI R ∧ rd M 1 8 = nI dr ∧ rd M 1 9 = nI pe ∧ rd M 1 10 = nI de ∧ ∀ j, j < l → rd M 2 j = nI (lt j)
theorem WC.to {lt : Nat → Nat} {l R dr pe de : Nat} {M M' : Mem} (h : WC lt l R dr pe de M) (f : ∀ q, q = 1 ∨ q = 2 → ∀ j, rd M' q j = rd M q j) : WC lt l R dr pe de M' := ⟨(f 1 (Or.inl rfl) _).trans h.1, (f 1 (Or.inl rfl) _).trans h.2.1, (f 1 (Or.inl rfl) _).trans h.2.2.1, (f 1 (Or.inl rfl) _).trans h.2.2.2.1, fun j hj => (f 2 (Or.inr rfl) _).trans (h.2.2.2.2 j hj)⟩
/-- what a page must be for a house -/
def PGW (lt : Nat → Nat) (l R dr pe de : Nat) : Prop := CTn lt R dr pe de ∧ (1 ≤ dr ∧ dr ≤ 6) ∧ (2 ≤ pe ∧ pe ≤ 4) ∧ (1 ≤ de ∧ de ≤ 4) ∧ l = 4 * dr + 4 * pe + 5 * de + 1 ∧ l ≤ 64 ∧ ∀ j, j < l → lt j < 127
def HF (lt : Nat → Nat) (R dr pe de : Nat) (M M' : Mem) : Prop := (∀ q, ¬ (3 ≤ q ∧ q ≤ 6) → ¬ (8 ≤ q ∧ q ≤ 14) → ∀ j, rd M' q j = rd M q j) ∧ (rd M' 3 0 = nI R ∧ rd M' 3 1 = nI dr ∧ rd M' 3 2 = nI pe ∧ rd M' 3 3 = nI de) ∧ (fl M M' 4 dr (fun j => DV lt (2 + 4 * j)) ∧ fl M M' 5 dr (fun j => DV lt (2 + 4 * j + 1)) ∧ fl M M' 6 dr (fun j => lkV (lt (2 + 4 * j + 2)))) ∧ (∀ p, p < 4 → rd M' (11 + p) 0 = if p < pe then ixU 1 (lt (2 + 4 * dr + 4 * p)) else rd M (11 + p) 0) ∧ fl M M' 8 de (fun j => DV lt (2 + 4 * dr + 4 * pe + 5 * j)) ∧ fl M M' 9 de (fun j => DV lt (2 + 4 * dr + 4 * pe + 5 * j + 1)) ∧ fl M M' 10 de (fun j => DV lt (2 + 4 * dr + 4 * pe + 5 * j + 2))
theorem sp_readHouse {Post : Mem → Prop} {M : Mem} {lt : Nat → Nat} {l R dr pe de : Nat} (w : WC lt l R dr pe de M) (g : PGW lt l R dr pe de) (h : ∀ M', HF lt R dr pe de M M' → Post M') : wp_X6_readHouse Post M := by
  obtain ⟨ct, hd, hp, hk, el, hl, hlt⟩ := g
  obtain ⟨-, -, -, cd, cp', ck⟩ := ct
  intro P34 P97 P136 h34 h97 h136 M1 e1 M2 e2 M3 e3 M4 e4
  have f4 : ∀ q, q ≠ 3 → ∀ j, rd M4 q j = rd M q j := fun q hq j => by
    rw [e4, wr_n hq, e3, wr_n hq, e2, wr_n hq, e1, wr_n hq]
  have s30 : rd M4 3 0 = nI R := by rw [e4, wr_k 3 (by omega), e3, wr_k 3 (by omega), e2, wr_k 3 (by omega), e1, wr_s, w.1]
  have s31 : rd M4 3 1 = nI dr := by rw [e4, wr_k 3 (by omega), e3, wr_k 3 (by omega), e2, wr_s, e1, wr_n (by omega), w.2.1]
  have s32 : rd M4 3 2 = nI pe := by rw [e4, wr_k 3 (by omega), e3, wr_s, e2, wr_n (by omega), e1, wr_n (by omega), w.2.2.1]
  have s33 : rd M4 3 3 = nI de := by rw [e4, wr_s, e3, wr_n (by omega), e2, wr_n (by omega), e1, wr_n (by omega), w.2.2.2.1]
  have w4 : WC lt l R dr pe de M4 := w.to (fun q hq j => f4 q (by omega) j)
  clear e1 e2 e3 e4 M1 M2 M3
  refine for_up (S := Mem) (P := P34) (n := dr) (fun i M' => (∀ q, ¬ (4 ≤ q ∧ q ≤ 6) → ∀ j, rd M' q j = rd M4 q j) ∧ fl M4 M' 4 i (fun j => DV lt (2 + 4 * j)) ∧ fl M4 M' 5 i (fun j => DV lt (2 + 4 * j + 1)) ∧ fl M4 M' 6 i (fun j => lkV (lt (2 + 4 * j + 2)))) (fun M5 I5 => h34 _ _ ⟨fun _ => ?_, fun z => absurd ?_ z⟩) (fun i M5 hi I5 ih => h34 _ _ ⟨fun z => absurd z ?_, fun _ x hx => ?_⟩) 0 (Nat.zero_le _) M4 ⟨fun _ _ _ => rfl, fl0 (fun _ => rfl), fl0 (fun _ => rfl), fl0 (fun _ => rfl)⟩
  rotate_left
  · rw [I5.1 1 (by omega), w4.2.1]
    exact Int32.le_refl _
  · rw [I5.1 1 (by omega), w4.2.1]
    exact le_n (by omega) hi
  · obtain ⟨g0, g1, g2, g3⟩ := cd i hi
    have w5 : WC lt l R dr pe de M5 := w4.to (fun q hq j => I5.1 q (by omega) j)
    rw [po_1] at hx
    rw [hx, nI_1 (2 + 4 * i), po_p2]
    refine c_dat (lt := lt) (by omega) (w5.2.2.2.2 _ (by omega)) g0.1 ⟨vp_in_nI (by omega) (by omega), fun M8 e8 => ?_⟩
    rw [cl4 (by omega)] at e8
    refine c_dat (lt := lt) (by omega) (by rw [e8, wr_n (by omega)]; exact w5.2.2.2.2 _ (by omega)) g1.1 ⟨vp_in_nI (by omega) (by omega), fun M11 e11 => ?_⟩
    rw [cl4 (by omega)] at e11
    refine c_pin (lt := lt) (by omega) (by omega) (by rw [e11, wr_n (by omega), e8, wr_n (by omega)]; exact w5.2.2.2.2 _ (by omega)) (hlt _ (by omega)) ⟨vp_in_nI (by omega) (by omega), fun M14 e14 y hy => ?_⟩
    rw [cl4 (by omega), lk_eq g3] at e14
    rw [hy, nI_1]
    refine ih M14 ⟨fun q hq j => ?_, fl_step I5.2.1 rfl (fun j => ?_), fl_step I5.2.2.1 rfl (fun j => ?_), fl_step I5.2.2.2 rfl (fun j => ?_)⟩
    · rw [e14, wr_n (by omega), e11, wr_n (by omega), e8, wr_n (by omega)]
      exact I5.1 q hq j
    · rw [e14, wr_n (by omega), e11, wr_n (by omega), e8, wr_q]
    · rw [e14, wr_n (by omega), e11, wr_q, e8, wr_n (by omega)]
    · rw [e14, wr_q, e11, wr_n (by omega), e8, wr_n (by omega)]
  refine for_up (S := Mem) (P := P97) (n := pe) (fun i M' => (∀ q, ¬ (11 ≤ q ∧ q ≤ 14) → ∀ j, rd M' q j = rd M5 q j) ∧ ∀ p, p < 4 → rd M' (11 + p) 0 = if p < i then ixU 1 (lt (2 + 4 * dr + 4 * p)) else rd M5 (11 + p) 0) (fun M6 I6 => h97 _ _ ⟨fun _ => ?_, fun z => absurd ?_ z⟩) (fun i M6 hi I6 ih => h97 _ _ ⟨fun z => absurd z ?_, fun _ => ?_⟩) 0 (Nat.zero_le _) M5 ⟨fun _ _ _ => rfl, fun p _ => by rw [if_neg (Nat.not_lt_zero _)]⟩
  rotate_left
  · rw [I6.1 1 (by omega), I5.1 1 (by omega), w4.2.2.1]
    exact Int32.le_refl _
  · rw [I6.1 1 (by omega), I5.1 1 (by omega), w4.2.2.1]
    exact le_n (by omega) hi
  · have w6 : WC lt l R dr pe de M6 := w4.to (fun q hq j => (I6.1 q (by omega) j).trans (I5.1 q (by omega) j))
    unfold wp_X6_peopleAt
    show wp_X6_placeIn _ M6 1 ((2 : Int32) + (4 : Int32) * rd M6 1 8 + (4 : Int32) * nI i)
    rw [w6.2.1, po_1, po_4]
    refine c_pin (lt := lt) (by omega) (by omega) (w6.2.2.2.2 _ (by omega)) (hlt _ (by omega)) ⟨vp_in_nI (by omega) (by omega), fun M20 e20 y hy => ?_⟩
    rw [cl4 (by omega)] at e20
    rw [hy, nI_1]
    refine ih M20 ⟨fun q hq j => ?_, fun p hp4 => ?_⟩
    · rw [e20, wr_n (by omega)]
      exact I6.1 q hq j
    · by_cases e : p = i
      · subst e
        rw [e20, wr_s, if_pos (by omega)]
      · rw [e20, wr_n (by omega), I6.2 p hp4]
        by_cases e2 : p < i
        · rw [if_pos e2, if_pos (by omega)]
        · rw [if_neg e2, if_neg (by omega)]
  refine for_up (S := Mem) (P := P136) (n := de) (fun i M' => (∀ q, ¬ (8 ≤ q ∧ q ≤ 10) → ∀ j, rd M' q j = rd M6 q j) ∧ fl M6 M' 8 i (fun j => DV lt (2 + 4 * dr + 4 * pe + 5 * j)) ∧ fl M6 M' 9 i (fun j => DV lt (2 + 4 * dr + 4 * pe + 5 * j + 1)) ∧ fl M6 M' 10 i (fun j => DV lt (2 + 4 * dr + 4 * pe + 5 * j + 2))) (fun M7 I7 => h136 _ _ ⟨fun _ => ?_, fun z => absurd ?_ z⟩) (fun i M7 hi I7 ih => h136 _ _ ⟨fun z => absurd z ?_, fun _ x hx => ?_⟩) 0 (Nat.zero_le _) M6 ⟨fun _ _ _ => rfl, fl0 (fun _ => rfl), fl0 (fun _ => rfl), fl0 (fun _ => rfl)⟩
  rotate_left
  · rw [I7.1 1 (by omega), I6.1 1 (by omega), I5.1 1 (by omega), w4.2.2.2.1]
    exact Int32.le_refl _
  · rw [I7.1 1 (by omega), I6.1 1 (by omega), I5.1 1 (by omega), w4.2.2.2.1]
    exact le_n (by omega) hi
  · obtain ⟨g0, g1, g2, g3, g4⟩ := ck i hi
    have w7 : WC lt l R dr pe de M7 := w4.to (fun q hq j => ((I7.1 q (by omega) j).trans (I6.1 q (by omega) j)).trans (I5.1 q (by omega) j))
    rw [w7.2.1, w7.2.2.1, po_1, po_4, po_5] at hx
    rw [hx, nI_1 (2 + 4 * dr + 4 * pe + 5 * i), po_p2]
    refine c_dat (lt := lt) (by omega) (w7.2.2.2.2 _ (by omega)) g0.1 ⟨vp_in_nI (by omega) (by omega), fun M8 e8 => ?_⟩
    rw [cl4 (by omega)] at e8
    refine c_dat (lt := lt) (by omega) (by rw [e8, wr_n (by omega)]; exact w7.2.2.2.2 _ (by omega)) g1.1 ⟨vp_in_nI (by omega) (by omega), fun M11 e11 => ?_⟩
    rw [cl4 (by omega)] at e11
    refine c_dat (lt := lt) (by omega) (by rw [e11, wr_n (by omega), e8, wr_n (by omega)]; exact w7.2.2.2.2 _ (by omega)) g3.1 ⟨vp_in_nI (by omega) (by omega), fun M14 e14 y hy => ?_⟩
    rw [cl4 (by omega)] at e14
    rw [hy, nI_1]
    refine ih M14 ⟨fun q hq j => ?_, fl_step I7.2.1 rfl (fun j => ?_), fl_step I7.2.2.1 rfl (fun j => ?_), fl_step I7.2.2.2 rfl (fun j => ?_)⟩
    · rw [e14, wr_n (by omega), e11, wr_n (by omega), e8, wr_n (by omega)]
      exact I7.1 q hq j
    · rw [e14, wr_n (by omega), e11, wr_n (by omega), e8, wr_q]
    · rw [e14, wr_n (by omega), e11, wr_q, e8, wr_n (by omega)]
    · rw [e14, wr_q, e11, wr_n (by omega), e8, wr_n (by omega)]
  have t : ∀ q, ¬ (8 ≤ q ∧ q ≤ 14) → ∀ j, rd M7 q j = rd M5 q j := fun q hq j => (I7.1 q (by omega) j).trans (I6.1 q (by omega) j)
  refine h M7 ⟨fun q h1 h2 j => ?_, ⟨?_, ?_, ?_, ?_⟩, ⟨?_, ?_, ?_⟩, fun p hp4 => ?_, ?_, ?_, ?_⟩
  · rw [t q h2, I5.1 q (by omega), f4 q (by omega)]
  · rw [t 3 (by omega), I5.1 3 (by omega), s30]
  · rw [t 3 (by omega), I5.1 3 (by omega), s31]
  · rw [t 3 (by omega), I5.1 3 (by omega), s32]
  · rw [t 3 (by omega), I5.1 3 (by omega), s33]
  · exact fl_of (fl_to I5.2.1 (t 4 (by omega))) (f4 4 (by omega))
  · exact fl_of (fl_to I5.2.2.1 (t 5 (by omega))) (f4 5 (by omega))
  · exact fl_of (fl_to I5.2.2.2 (t 6 (by omega))) (f4 6 (by omega))
  · rw [I7.1 (11 + p) (by omega), I6.2 p hp4, I5.1 (11 + p) (by omega), f4 (11 + p) (by omega)]
  · exact fl_of I7.2.1 (fun j => by rw [I6.1 8 (by omega), I5.1 8 (by omega), f4 8 (by omega)])
  · exact fl_of I7.2.2.1 (fun j => by rw [I6.1 9 (by omega), I5.1 9 (by omega), f4 9 (by omega)])
  · exact fl_of I7.2.2.2 (fun j => by rw [I6.1 10 (by omega), I5.1 10 (by omega), f4 10 (by omega)])
def HA (lt : Nat → Nat) (dr pe de : Nat) (M M' : Mem) : Prop := (∀ q, ¬ (59 ≤ q ∧ q ≤ 64) → ∀ j, rd M' q j = rd M q j) ∧ (fl M M' 60 pe (fun j => DV lt (2 + 4 * dr + 4 * j + 1)) ∧ fl M M' 61 pe (fun j => DV lt (2 + 4 * dr + 4 * j + 2))) ∧ (fl M M' 63 de (fun j => DV lt (2 + 4 * dr + 4 * pe + 5 * j + 3)) ∧ fl M M' 64 de (fun _ => 0)) ∧ fl M M' 62 2 (fun j => nI j) ∧ rd M' 59 9 = 0 ∧ rd M' 59 8 = 0
theorem sp_readAffairs {Post : Mem → Prop} {M : Mem} {lt : Nat → Nat} {l R dr pe de : Nat} (w : WC lt l R dr pe de M) (g : PGW lt l R dr pe de) (h : ∀ M', HA lt dr pe de M M' → Post M') : wp_X6_readAffairs Post M 59 := by
  obtain ⟨ct, hd, hp, hk, el, hl, hlt⟩ := g
  obtain ⟨-, -, -, cd, cp', ck⟩ := ct
  intro P2 P53 P96 h2 h53 h96
  refine for_up (S := Mem) (P := P2) (n := pe) (fun i M' => (∀ q, ¬ (60 ≤ q ∧ q ≤ 61) → ∀ j, rd M' q j = rd M q j) ∧ fl M M' 60 i (fun j => DV lt (2 + 4 * dr + 4 * j + 1)) ∧ fl M M' 61 i (fun j => DV lt (2 + 4 * dr + 4 * j + 2))) (fun M5 I5 => h2 _ _ ⟨fun _ => ?_, fun z => absurd ?_ z⟩) (fun i M5 hi I5 ih => h2 _ _ ⟨fun z => absurd z ?_, fun _ x hx => ?_⟩) 0 (Nat.zero_le _) M ⟨fun _ _ _ => rfl, fl0 (fun _ => rfl), fl0 (fun _ => rfl)⟩
  rotate_left
  · rw [I5.1 1 (by omega), w.2.2.1]
    exact Int32.le_refl _
  · rw [I5.1 1 (by omega), w.2.2.1]
    exact le_n (by omega) hi
  · obtain ⟨g0, g1, g2⟩ := cp' i hi
    have w5 : WC lt l R dr pe de M5 := w.to (fun q hq j => I5.1 q (by omega) j)
    rw [w5.2.1, po_1, po_4] at hx
    rw [hx, nI_1 (2 + 4 * dr + 4 * i), po_p2]
    refine c_dat (lt := lt) (by omega) (w5.2.2.2.2 _ (by omega)) g1.1 ⟨vp_in_nI (by omega) (by omega), fun M8 e8 => ?_⟩
    rw [cl4 (by omega)] at e8
    refine c_dat (lt := lt) (by omega) (by rw [e8, wr_n (by omega)]; exact w5.2.2.2.2 _ (by omega)) g2.1 ⟨vp_in_nI (by omega) (by omega), fun M11 e11 y hy => ?_⟩
    rw [cl4 (by omega)] at e11
    rw [hy, nI_1]
    refine ih M11 ⟨fun q hq j => ?_, fl_step I5.2.1 rfl (fun j => ?_), fl_step I5.2.2 rfl (fun j => ?_)⟩
    · rw [e11, wr_n (by omega), e8, wr_n (by omega)]
      exact I5.1 q hq j
    · rw [e11, wr_n (by omega), e8, wr_q]
    · rw [e11, wr_q, e8, wr_n (by omega)]
  refine for_up (S := Mem) (P := P53) (n := de) (fun i M' => (∀ q, ¬ (63 ≤ q ∧ q ≤ 64) → ∀ j, rd M' q j = rd M5 q j) ∧ fl M5 M' 63 i (fun j => DV lt (2 + 4 * dr + 4 * pe + 5 * j + 3)) ∧ fl M5 M' 64 i (fun _ => 0)) (fun M6 I6 => h53 _ _ ⟨fun _ => ?_, fun z => absurd ?_ z⟩) (fun i M6 hi I6 ih => h53 _ _ ⟨fun z => absurd z ?_, fun _ => ?_⟩) 0 (Nat.zero_le _) M5 ⟨fun _ _ _ => rfl, fl0 (fun _ => rfl), fl0 (fun _ => rfl)⟩
  rotate_left
  · rw [I6.1 1 (by omega), I5.1 1 (by omega), w.2.2.2.1]
    exact Int32.le_refl _
  · rw [I6.1 1 (by omega), I5.1 1 (by omega), w.2.2.2.1]
    exact le_n (by omega) hi
  · obtain ⟨g0, g1, g2, g3, g4⟩ := ck i hi
    have w6 : WC lt l R dr pe de M6 := w.to (fun q hq j => (I6.1 q (by omega) j).trans (I5.1 q (by omega) j))
    unfold wp_X6_debtsAt wp_X6_peopleAt
    show wp_X6_digitAt _ M6 ((2 : Int32) + (4 : Int32) * rd M6 1 8 + (4 : Int32) * rd M6 1 9 + (5 : Int32) * nI i + 3)
    rw [w6.2.1, w6.2.2.1, po_1, po_4, po_5, po_p3]
    refine c_dat (lt := lt) (by omega) (w6.2.2.2.2 _ (by omega)) (by omega) ⟨vp_in_nI (by omega) (by omega), fun M8 e8 => ⟨vp_in_nI (by omega) (by omega), fun M11 e11 y hy => ?_⟩⟩
    rw [cl4 (by omega)] at e8 e11
    rw [nar0] at e11
    rw [hy, nI_1]
    refine ih M11 ⟨fun q hq j => ?_, fl_step I6.2.1 rfl (fun j => ?_), fl_step I6.2.2 rfl (fun j => ?_)⟩
    · rw [e11, wr_n (by omega), e8, wr_n (by omega)]
      exact I6.1 q hq j
    · rw [e11, wr_n (by omega), e8, wr_q]
    · rw [e11, wr_q, e8, wr_n (by omega)]
  refine for_up (S := Mem) (P := P96) (n := 2) (fun i M' => (∀ q, q ≠ 62 → ∀ j, rd M' q j = rd M6 q j) ∧ fl M6 M' 62 i (fun j => nI j)) (fun M7 I7 => h96 _ _ ⟨fun _ M18 e18 M19 e19 => ?_, fun z => absurd (by decide) z⟩) (fun i M7 hi I7 ih => h96 _ _ ⟨fun z => absurd z (le_n (n := 2) (by omega) hi), fun _ => ⟨vp_in_nI (by omega) (by omega), fun M20 e20 y hy => ?_⟩⟩) 0 (Nat.zero_le _) M6 ⟨fun _ _ _ => rfl, fl0 (fun _ => rfl)⟩
  rotate_left
  · rw [cl4 (by omega)] at e20
    rw [hy, nI_1]
    refine ih M20 ⟨fun q hq j => ?_, fl_step I7.2 rfl (fun j => ?_)⟩
    · rw [e20, wr_n (by omega)]
      exact I7.1 q hq j
    · rw [e20, wr_q]
  have t : ∀ q, q ≠ 62 → q ≠ 59 → ∀ j, rd M19 q j = rd M6 q j := fun q hq hq2 j => by rw [e19, wr_n hq2, e18, wr_n hq2, I7.1 q hq]
  refine h M19 ⟨fun q hq j => ?_, ⟨?_, ?_⟩, ⟨?_, ?_⟩, ?_, ?_, ?_⟩
  · rw [t q (by omega) (by omega), I6.1 q (by omega), I5.1 q (by omega)]
  · exact fl_to I5.2.1 (fun j => (t 60 (by omega) (by omega) j).trans (I6.1 60 (by omega) j))
  · exact fl_to I5.2.2 (fun j => (t 61 (by omega) (by omega) j).trans (I6.1 61 (by omega) j))
  · exact fl_of (fl_to I6.2.1 (t 63 (by omega) (by omega))) (I5.1 63 (by omega))
  · exact fl_of (fl_to I6.2.2 (t 64 (by omega) (by omega))) (I5.1 64 (by omega))
  · exact fl_of (fl_to I7.2 (fun j => by rw [e19, wr_n (by omega), e18, wr_n (by omega)])) (fun j => (I6.1 62 (by omega) j).trans (I5.1 62 (by omega) j))
  · rw [e19, wr_k 59 (by omega), e18, wr_s]
  · rw [e19, wr_s]
