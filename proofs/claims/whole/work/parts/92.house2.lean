/-! ===== house: what the model reads ===== -/
theorem m_lock {Post : Int32 → Mem → Prop} {M : Mem} {x : Nat} (h : x = 111 ∨ x = 97 ∨ x = 98) (k : Post (lkV x) M) : wp_X12_lockBy Post M (nI x) := by
  have e : nI x = 111 ↔ x = 111 := eq_lit (y := 111) (by omega) (by omega)
  unfold wp_X12_lockBy
  unfold lkV at k
  rw [e]
  refine ⟨fun z => ?_, fun z => ?_⟩
  · rw [if_neg z] at k
    have e2 : nI x - 97 = nI (x - 97) := pk_sub (b := 97) (by omega)
    rw [e2]
    exact k
  · rw [if_pos z] at k
    exact k
theorem m_kind {Post : Int32 → Mem → Prop} {M : Mem} {x : Nat} (h : kdOK x) (k : Post (ixU 1 x) M) : wp_X12_kindBy Post M (nI x) := by
  rcases h with rfl | rfl | rfl | rfl | rfl
  · exact ⟨fun z => absurd z (by decide), fun z => absurd z (by decide), fun z => absurd z (by decide), fun _ => k, fun z => absurd z (by decide), fun _ _ _ z => absurd (by decide) z⟩
  · exact ⟨fun z => absurd z (by decide), fun z => absurd z (by decide), fun z => absurd z (by decide), fun z => absurd z (by decide), fun _ => k, fun _ _ _ _ z => absurd (by decide) z⟩
  · exact ⟨fun _ => k, fun z => absurd z (by decide), fun z => absurd z (by decide), fun z => absurd z (by decide), fun z => absurd z (by decide), fun z => absurd (by decide) z⟩
  · exact ⟨fun z => absurd z (by decide), fun z => absurd z (by decide), fun _ => k, fun z => absurd z (by decide), fun z => absurd z (by decide), fun _ _ z => absurd (by decide) z⟩
  · exact ⟨fun z => absurd z (by decide), fun _ => k, fun z => absurd z (by decide), fun z => absurd z (by decide), fun z => absurd z (by decide), fun _ z => absurd (by decide) z⟩
theorem po_31 (i : Nat) : (3 : Int32) + (4 : Int32) * nI i = nI (2 + 4 * i + 1) := by
  have e : (4 : Int32) * nI i = nI (4 * i) := pk_mul 4 i
  rw [e, show 2 + 4 * i + 1 = 3 + 4 * i by omega]
  exact nI_add 3 (4 * i)
theorem po_42 (i : Nat) : (4 : Int32) + (4 : Int32) * nI i = nI (2 + 4 * i + 2) := by
  have e : (4 : Int32) * nI i = nI (4 * i) := pk_mul 4 i
  rw [e, show 2 + 4 * i + 2 = 4 + 4 * i by omega]
  exact nI_add 4 (4 * i)
theorem dv_e {lt : Nat → Nat} {x : Nat} (h : 48 ≤ lt x) : nI (lt x) - 48 = DV lt x := pk_sub (b := 48) h
def HM (lt : Nat → Nat) (R dr pe de : Nat) (M M' : Mem) : Prop := (∀ q, q ≠ 29 → ¬ (31 ≤ q ∧ q ≤ 42) → ∀ j, rd M' q j = rd M q j) ∧ (rd M' 29 4 = nI R ∧ rd M' 29 5 = nI dr ∧ rd M' 29 6 = nI pe ∧ rd M' 29 7 = nI de) ∧ (rd M' 29 8 = 0 ∧ rd M' 29 31 = 0 ∧ rd M' 29 9 = rd M 29 9 + 1 ∧ rd M' 29 1 = 0 ∧ ∀ k, 34 ≤ k → rd M' 29 k = rd M 29 k) ∧ (fl M M' 31 dr (fun j => DV lt (2 + 4 * j)) ∧ fl M M' 32 dr (fun j => DV lt (2 + 4 * j + 1)) ∧ fl M M' 33 dr (fun j => lkV (lt (2 + 4 * j + 2)))) ∧ (fl M M' 34 pe (fun j => ixU 1 (lt (2 + 4 * dr + 4 * j))) ∧ fl M M' 35 pe (fun j => DV lt (2 + 4 * dr + 4 * j + 1)) ∧ fl M M' 36 pe (fun j => DV lt (2 + 4 * dr + 4 * j + 2))) ∧ (fl M M' 38 de (fun j => DV lt (2 + 4 * dr + 4 * pe + 5 * j)) ∧ fl M M' 39 de (fun j => DV lt (2 + 4 * dr + 4 * pe + 5 * j + 1)) ∧ fl M M' 40 de (fun j => DV lt (2 + 4 * dr + 4 * pe + 5 * j + 2)) ∧ fl M M' 41 de (fun j => DV lt (2 + 4 * dr + 4 * pe + 5 * j + 3)) ∧ fl M M' 42 de (fun _ => 0)) ∧ fl M M' 37 2 (fun j => nI j)
theorem sp_house_m {Post : Int32 → Mem → Prop} {M : Mem} {lt : Nat → Nat} {l fi R dr pe de : Nat} (g : PGW lt l R dr pe de) (sm : ScM lt l l (fun M' => MSt lt l M' (3, 4, fi, R, dr, pe, de))) (p1 : rd M 29 1 = nI l) (p2 : ∀ j, j < l → rd M 30 j = nI (lt j)) (h : ∀ M', HM lt R dr pe de M M' → Post (nI pe) M') : wp_X12_house Post M := by
  obtain ⟨ct, hd, hp, hk, el, hl, hlt⟩ := g
  obtain ⟨c0, hR2, hR6, cd, cp', ck⟩ := ct
  intro P92 P165 P241 h92 h165 h241
  refine sm M _ p1 p2 (fun M2 f2 m2 => ?_)
  have m2 : MS lt l M2 (4 * dr + 1) (4 * dr + 4 * pe + 1) := m2
  obtain ⟨q1, ql, q2, q3⟩ := m2
  have e00 : (0 : Int32).toNatClampNeg = 0 := by decide
  have em : nI l - nI (4 * dr + 4 * pe + 1) = nI (5 * de) := by rw [pk_sub (by omega), show l - (4 * dr + 4 * pe + 1) = 5 * de by omega]
  refine ⟨fun z => absurd z ?_, fun _ => ⟨fun z => absurd z ?_, fun _ => ⟨fun _ => ⟨vp_in_nI (n := 0) (by omega) (by omega), fun M3 e3 M4 e4 M5 e5 M6 e6 => ?_⟩, fun z => absurd ?_ z⟩⟩⟩
  · rw [q1]
    exact nI_nlt (Nat.le_refl _) (by omega)
  · rw [q3]
    exact nI_ne0 (by omega) (by omega)
  rotate_left
  · rw [q1, q3, em, mk_res rfl (by omega), show 5 * de % 5 = 0 by omega]
    rfl
  have e48 : nI (R + 48) - 48 = nI R := by
    have : nI (R + 48) - 48 = nI (R + 48 - 48) := pk_sub (b := 48) (by omega)
    rw [this, Nat.add_sub_cancel]
  have v3 : M3 = wr M2 29 4 (nI R) := by rw [e3, e00, ql 0 (by omega), c0, e48]
  have d4 : ∀ k, k < 100 → nI (4 * k) / 4 = nI k := fun k hk => by
    have : nI (4 * k) / 4 = nI (4 * k / 4) := pk_div (d := 4) (by omega) (by omega) (by omega)
    rw [this, show 4 * k / 4 = k by omega]
  have d5 : nI (5 * de) / 5 = nI de := by
    have : nI (5 * de) / 5 = nI (5 * de / 5) := pk_div (d := 5) (by omega) (by omega) (by omega)
    rw [this, show 5 * de / 5 = de by omega]
  have v4 : M4 = wr M3 29 5 (nI dr) := by rw [e4, v3, wr_k 29 (by omega), q2, nI_sub1 (by omega), show 4 * dr + 1 - 1 = 4 * dr by omega, d4 dr (by omega)]
  have v5 : M5 = wr M4 29 6 (nI pe) := by rw [e5, v4, v3, wr_k 29 (by omega), wr_k 29 (by omega), wr_k 29 (by omega), wr_k 29 (by omega), q2, q3, pk_sub (by omega), show 4 * dr + 4 * pe + 1 - (4 * dr + 1) = 4 * pe by omega, d4 pe (by omega)]
  have v6 : M6 = wr M5 29 7 (nI de) := by rw [e6, v5, v4, v3, wr_k 29 (by omega), wr_k 29 (by omega), wr_k 29 (by omega), wr_k 29 (by omega), wr_k 29 (by omega), wr_k 29 (by omega), q1, q3, em, d5]
  have f6 : ∀ q, q ≠ 29 → ∀ j, rd M6 q j = rd M q j := fun q hq j => by rw [v6, wr_n hq, v5, wr_n hq, v4, wr_n hq, v3, wr_n hq, f2.1 q hq]
  have k6 : ∀ k, ¬ (4 ≤ k ∧ k ≤ 7) → rd M6 29 k = rd M2 29 k := fun k hk => by rw [v6, wr_k 29 (by omega), v5, wr_k 29 (by omega), v4, wr_k 29 (by omega), v3, wr_k 29 (by omega)]
  have s4 : rd M6 29 4 = nI R := by rw [v6, wr_k 29 (by omega), v5, wr_k 29 (by omega), v4, wr_k 29 (by omega), v3, wr_s]
  have s5 : rd M6 29 5 = nI dr := by rw [v6, wr_k 29 (by omega), v5, wr_k 29 (by omega), v4, wr_s]
  have s6 : rd M6 29 6 = nI pe := by rw [v6, wr_k 29 (by omega), v5, wr_s]
  have s7 : rd M6 29 7 = nI de := by rw [v6, wr_s]
  have l6 : ∀ j, j < l → rd M6 30 j = nI (lt j) := fun j hj => by rw [f6 30 (by omega), p2 j hj]
  have t2 : rd M6 29 2 = nI (4 * dr + 1) := by rw [k6 2 (by omega), q2]
  have t3 : rd M6 29 3 = nI (4 * dr + 4 * pe + 1) := by rw [k6 3 (by omega), q3]
  have k6' : ∀ k, ¬ (4 ≤ k ∧ k ≤ 7) → k ≠ 2 → k ≠ 3 → rd M6 29 k = rd M 29 k := fun k hk h2 h3 => by rw [k6 k hk, f2.2 k h2 h3]
  clear e3 e4 e5 e6 v3 v4 v5 v6 M3 M4 M5
  refine for_up (S := Mem) (P := P92) (n := dr) (fun i M' => (∀ q, ¬ (31 ≤ q ∧ q ≤ 33) → ∀ j, rd M' q j = rd M6 q j) ∧ fl M6 M' 31 i (fun j => DV lt (2 + 4 * j)) ∧ fl M6 M' 32 i (fun j => DV lt (2 + 4 * j + 1)) ∧ fl M6 M' 33 i (fun j => lkV (lt (2 + 4 * j + 2)))) (fun M7 I7 => h92 _ _ ⟨fun _ => ?_, fun z => absurd ?_ z⟩) (fun i M7 hi I7 ih => h92 _ _ ⟨fun z => absurd z ?_, fun _ => ?_⟩) 0 (Nat.zero_le _) M6 ⟨fun _ _ _ => rfl, fl0 (fun _ => rfl), fl0 (fun _ => rfl), fl0 (fun _ => rfl)⟩
  rotate_left
  · rw [I7.1 29 (by omega), s5]
    exact Int32.le_refl _
  · rw [I7.1 29 (by omega), s5]
    exact le_n (by omega) hi
  · obtain ⟨g0, g1, g2, g3⟩ := cd i hi
    rw [po_1, po_31, po_42]
    refine ⟨vp_in_nI (by omega) (by omega), vp_in_nI (by omega) (by omega), fun M8 e8 => ⟨vp_in_nI (by omega) (by omega), vp_in_nI (by omega) (by omega), fun M9 e9 => ⟨vp_in_nI (by omega) (by omega), ?_⟩⟩⟩
    rw [cl4 (by omega), cl4 (by omega), I7.1 30 (by omega), l6 _ (by omega), dv_e g0.1] at e8
    rw [cl4 (by omega), cl4 (by omega), e8, wr_n (by omega), I7.1 30 (by omega), l6 _ (by omega), dv_e g1.1] at e9
    rw [cl4 (p := 2 + 4 * i + 2) (by omega), show rd M9 30 (2 + 4 * i + 2) = nI (lt (2 + 4 * i + 2)) by rw [e9, wr_n (by omega), wr_n (by omega), I7.1 30 (by omega), l6 _ (by omega)]]
    refine m_lock g3 ⟨vp_in_nI (by omega) (by omega), fun M11 e11 y hy => ?_⟩
    rw [cl4 (by omega)] at e11
    rw [hy, nI_1]
    refine ih M11 ⟨fun q hq j => ?_, fl_step I7.2.1 rfl (fun j => ?_), fl_step I7.2.2.1 rfl (fun j => ?_), fl_step I7.2.2.2 rfl (fun j => ?_)⟩
    · rw [e11, wr_n (by omega), e9, wr_n (by omega), wr_n (by omega)]
      exact I7.1 q hq j
    · rw [e11, wr_n (by omega), e9, wr_n (by omega), wr_q]
    · rw [e11, wr_n (by omega), e9, wr_q, wr_n (by omega)]
    · rw [e11, wr_q, e9, wr_n (by omega), wr_n (by omega)]
  refine for_up (S := Mem) (P := P165) (n := pe) (fun i M' => (∀ q, ¬ (34 ≤ q ∧ q ≤ 36) → ∀ j, rd M' q j = rd M7 q j) ∧ fl M7 M' 34 i (fun j => ixU 1 (lt (2 + 4 * dr + 4 * j))) ∧ fl M7 M' 35 i (fun j => DV lt (2 + 4 * dr + 4 * j + 1)) ∧ fl M7 M' 36 i (fun j => DV lt (2 + 4 * dr + 4 * j + 2))) (fun M8 I8 => h165 _ _ ⟨fun _ => ?_, fun z => absurd ?_ z⟩) (fun i M8 hi I8 ih => h165 _ _ ⟨fun z => absurd z ?_, fun _ x hx => ?_⟩) 0 (Nat.zero_le _) M7 ⟨fun _ _ _ => rfl, fl0 (fun _ => rfl), fl0 (fun _ => rfl), fl0 (fun _ => rfl)⟩
  rotate_left
  · rw [I8.1 29 (by omega), I7.1 29 (by omega), s6]
    exact Int32.le_refl _
  · rw [I8.1 29 (by omega), I7.1 29 (by omega), s6]
    exact le_n (by omega) hi
  · obtain ⟨g0, g1, g2⟩ := cp' i hi
    have l8 : ∀ j, j < l → rd M8 30 j = nI (lt j) := fun j hj => by rw [I8.1 30 (by omega), I7.1 30 (by omega), l6 j hj]
    rw [I8.1 29 (by omega), I7.1 29 (by omega), t2, nI_1, po_4, show 4 * dr + 1 + 1 + 4 * i = 2 + 4 * dr + 4 * i by omega] at hx
    rw [hx, nI_1 (2 + 4 * dr + 4 * i), po_p2]
    refine ⟨vp_in_nI (by omega) (by omega), ?_⟩
    rw [cl4 (p := 2 + 4 * dr + 4 * i) (by omega), l8 _ (by omega)]
    refine m_kind g0 ⟨vp_in_nI (by omega) (by omega), fun M9 e9 => ⟨vp_in_nI (by omega) (by omega), vp_in_nI (by omega) (by omega), fun M10 e10 => ⟨vp_in_nI (by omega) (by omega), vp_in_nI (by omega) (by omega), fun M11 e11 y hy => ?_⟩⟩⟩
    rw [cl4 (by omega)] at e9
    rw [cl4 (by omega), cl4 (by omega), e9, wr_n (by omega), l8 _ (by omega), dv_e g1.1] at e10
    rw [cl4 (by omega), cl4 (by omega), e10, wr_n (by omega), wr_n (by omega), l8 _ (by omega), dv_e g2.1] at e11
    rw [hy, nI_1]
    refine ih M11 ⟨fun q hq j => ?_, fl_step I8.2.1 rfl (fun j => ?_), fl_step I8.2.2.1 rfl (fun j => ?_), fl_step I8.2.2.2 rfl (fun j => ?_)⟩
    · rw [e11, wr_n (by omega), wr_n (by omega), wr_n (by omega)]
      exact I8.1 q hq j
    · rw [e11, wr_n (by omega), wr_n (by omega), wr_q]
    · rw [e11, wr_n (by omega), wr_q, wr_n (by omega)]
    · rw [e11, wr_q, wr_n (by omega), wr_n (by omega)]
  refine for_up (S := Mem) (P := P241) (n := de) (fun i M' => (∀ q, ¬ (38 ≤ q ∧ q ≤ 42) → ∀ j, rd M' q j = rd M8 q j) ∧ fl M8 M' 38 i (fun j => DV lt (2 + 4 * dr + 4 * pe + 5 * j)) ∧ fl M8 M' 39 i (fun j => DV lt (2 + 4 * dr + 4 * pe + 5 * j + 1)) ∧ fl M8 M' 40 i (fun j => DV lt (2 + 4 * dr + 4 * pe + 5 * j + 2)) ∧ fl M8 M' 41 i (fun j => DV lt (2 + 4 * dr + 4 * pe + 5 * j + 3)) ∧ fl M8 M' 42 i (fun _ => 0)) (fun M9 I9 => h241 _ _ ⟨fun _ => ⟨vp_in_nI (n := 0) (by omega) (by omega), fun M20 e20 => ⟨vp_in_nI (n := 1) (by omega) (by omega), fun M21 e21 M22 e22 M23 e23 M24 e24 M25 e25 => ?_⟩⟩, fun z => absurd ?_ z⟩) (fun i M9 hi I9 ih => h241 _ _ ⟨fun z => absurd z ?_, fun _ x hx => ?_⟩) 0 (Nat.zero_le _) M8 ⟨fun _ _ _ => rfl, fl0 (fun _ => rfl), fl0 (fun _ => rfl), fl0 (fun _ => rfl), fl0 (fun _ => rfl), fl0 (fun _ => rfl)⟩
  rotate_left
  · rw [I9.1 29 (by omega), I8.1 29 (by omega), I7.1 29 (by omega), s7]
    exact Int32.le_refl _
  · rw [I9.1 29 (by omega), I8.1 29 (by omega), I7.1 29 (by omega), s7]
    exact le_n (by omega) hi
  · obtain ⟨g0, g1, g2, g3, g4⟩ := ck i hi
    have l9 : ∀ j, j < l → rd M9 30 j = nI (lt j) := fun j hj => by rw [I9.1 30 (by omega), I8.1 30 (by omega), I7.1 30 (by omega), l6 j hj]
    rw [I9.1 29 (by omega), I8.1 29 (by omega), I7.1 29 (by omega), t3, nI_1, po_5, show 4 * dr + 4 * pe + 1 + 1 + 5 * i = 2 + 4 * dr + 4 * pe + 5 * i by omega] at hx
    rw [hx, nI_1 (2 + 4 * dr + 4 * pe + 5 * i), po_p2, po_p3]
    refine ⟨vp_in_nI (by omega) (by omega), vp_in_nI (by omega) (by omega), fun M10 e10 => ⟨vp_in_nI (by omega) (by omega), vp_in_nI (by omega) (by omega), fun M11 e11 => ⟨vp_in_nI (by omega) (by omega), vp_in_nI (by omega) (by omega), fun M12 e12 => ⟨vp_in_nI (by omega) (by omega), vp_in_nI (by omega) (by omega), fun M13 e13 => ⟨vp_in_nI (by omega) (by omega), fun M14 e14 y hy => ?_⟩⟩⟩⟩⟩
    rw [cl4 (by omega), cl4 (by omega), l9 _ (by omega), dv_e g0.1] at e10
    rw [cl4 (by omega), cl4 (by omega), e10, wr_n (by omega), l9 _ (by omega), dv_e g1.1] at e11
    rw [cl4 (by omega), cl4 (by omega), e11, wr_n (by omega), wr_n (by omega), l9 _ (by omega), dv_e g3.1] at e12
    rw [cl4 (by omega), cl4 (by omega), e12, wr_n (by omega), wr_n (by omega), wr_n (by omega), l9 _ (by omega), dv_e (by omega)] at e13
    rw [cl4 (by omega), e13] at e14
    rw [hy, nI_1]
    refine ih M14 ⟨fun q hq j => ?_, fl_step I9.2.1 rfl (fun j => ?_), fl_step I9.2.2.1 rfl (fun j => ?_), fl_step I9.2.2.2.1 rfl (fun j => ?_), fl_step I9.2.2.2.2.1 rfl (fun j => ?_), fl_step I9.2.2.2.2.2 rfl (fun j => ?_)⟩
    · rw [e14, wr_n (by omega), wr_n (by omega), wr_n (by omega), wr_n (by omega), wr_n (by omega)]
      exact I9.1 q hq j
    · rw [e14, wr_n (by omega), wr_n (by omega), wr_n (by omega), wr_n (by omega), wr_q]
    · rw [e14, wr_n (by omega), wr_n (by omega), wr_n (by omega), wr_q, wr_n (by omega)]
    · rw [e14, wr_n (by omega), wr_n (by omega), wr_q, wr_n (by omega), wr_n (by omega)]
    · rw [e14, wr_n (by omega), wr_q, wr_n (by omega), wr_n (by omega), wr_n (by omega)]
    · rw [e14, wr_q, wr_n (by omega), wr_n (by omega), wr_n (by omega), wr_n (by omega)]
  have e01 : (1 : Int32).toNatClampNeg = 1 := by decide
  rw [e00] at e20
  rw [e01] at e21
  have tn : ∀ q, q ≠ 29 → q ≠ 37 → ∀ j, rd M25 q j = rd M9 q j := fun q h1 h2 j => by rw [e25, wr_n h1, e24, wr_n h1, e23, wr_n h1, e22, wr_n h1, e21, wr_n h2, e20, wr_n h2]
  have tk : ∀ k, k ≠ 1 → k ≠ 9 → k ≠ 31 → k ≠ 8 → rd M25 29 k = rd M6 29 k := fun k h1 h2 h3 h4 => by rw [e25, wr_k 29 h1, e24, wr_k 29 h2, e23, wr_k 29 h3, e22, wr_k 29 h4, e21, wr_n (by omega), e20, wr_n (by omega), I9.1 29 (by omega), I8.1 29 (by omega), I7.1 29 (by omega)]
  have t6 : rd M25 29 6 = nI pe := by rw [tk 6 (by omega) (by omega) (by omega) (by omega), s6]
  rw [t6]
  refine h M25 ⟨fun q h1 h2 j => ?_, ⟨?_, ?_, t6, ?_⟩, ⟨?_, ?_, ?_, ?_, fun k hk34 => ?_⟩, ⟨?_, ?_, ?_⟩, ⟨?_, ?_, ?_⟩, ⟨?_, ?_, ?_, ?_, ?_⟩, fun j => ?_⟩
  · rw [tn q h1 (by omega), I9.1 q (by omega), I8.1 q (by omega), I7.1 q (by omega), f6 q h1]
  · rw [tk 4 (by omega) (by omega) (by omega) (by omega), s4]
  · rw [tk 5 (by omega) (by omega) (by omega) (by omega), s5]
  · rw [tk 7 (by omega) (by omega) (by omega) (by omega), s7]
  · rw [e25, wr_k 29 (by omega), e24, wr_k 29 (by omega), e23, wr_k 29 (by omega), e22, wr_s]
  · rw [e25, wr_k 29 (by omega), e24, wr_k 29 (by omega), e23, wr_s]
  · rw [e25, wr_k 29 (by omega), e24, wr_s, e23, wr_k 29 (by omega), e22, wr_k 29 (by omega), e21, wr_n (by omega), e20, wr_n (by omega), I9.1 29 (by omega), I8.1 29 (by omega), I7.1 29 (by omega), k6' 9 (by omega) (by omega) (by omega)]
  · rw [e25, wr_s]
  · rw [tk k (by omega) (by omega) (by omega) (by omega), k6' k (by omega) (by omega) (by omega)]
  · exact fl_of (fl_to I7.2.1 (fun j => by rw [tn 31 (by omega) (by omega), I9.1 31 (by omega), I8.1 31 (by omega)])) (f6 31 (by omega))
  · exact fl_of (fl_to I7.2.2.1 (fun j => by rw [tn 32 (by omega) (by omega), I9.1 32 (by omega), I8.1 32 (by omega)])) (f6 32 (by omega))
  · exact fl_of (fl_to I7.2.2.2 (fun j => by rw [tn 33 (by omega) (by omega), I9.1 33 (by omega), I8.1 33 (by omega)])) (f6 33 (by omega))
  · exact fl_of (fl_to I8.2.1 (fun j => by rw [tn 34 (by omega) (by omega), I9.1 34 (by omega)])) (fun j => by rw [I7.1 34 (by omega), f6 34 (by omega)])
  · exact fl_of (fl_to I8.2.2.1 (fun j => by rw [tn 35 (by omega) (by omega), I9.1 35 (by omega)])) (fun j => by rw [I7.1 35 (by omega), f6 35 (by omega)])
  · exact fl_of (fl_to I8.2.2.2 (fun j => by rw [tn 36 (by omega) (by omega), I9.1 36 (by omega)])) (fun j => by rw [I7.1 36 (by omega), f6 36 (by omega)])
  · exact fl_of (fl_to I9.2.1 (tn 38 (by omega) (by omega))) (fun j => by rw [I8.1 38 (by omega), I7.1 38 (by omega), f6 38 (by omega)])
  · exact fl_of (fl_to I9.2.2.1 (tn 39 (by omega) (by omega))) (fun j => by rw [I8.1 39 (by omega), I7.1 39 (by omega), f6 39 (by omega)])
  · exact fl_of (fl_to I9.2.2.2.1 (tn 40 (by omega) (by omega))) (fun j => by rw [I8.1 40 (by omega), I7.1 40 (by omega), f6 40 (by omega)])
  · exact fl_of (fl_to I9.2.2.2.2.1 (tn 41 (by omega) (by omega))) (fun j => by rw [I8.1 41 (by omega), I7.1 41 (by omega), f6 41 (by omega)])
  · exact fl_of (fl_to I9.2.2.2.2.2 (tn 42 (by omega) (by omega))) (fun j => by rw [I8.1 42 (by omega), I7.1 42 (by omega), f6 42 (by omega)])
  · have b37 : rd M9 37 j = rd M 37 j := by rw [I9.1 37 (by omega), I8.1 37 (by omega), I7.1 37 (by omega), f6 37 (by omega)]
    rw [e25, wr_n (by omega), e24, wr_n (by omega), e23, wr_n (by omega), e22, wr_n (by omega), e21, wr_q, e20, wr_q, b37]
    by_cases j1 : j = 1
    · subst j1
      rw [if_pos rfl, if_pos (by omega)]
      rfl
    · rw [if_neg j1]
      by_cases j0 : j = 0
      · subst j0
        rw [if_pos rfl, if_pos (by omega)]
        rfl
      · rw [if_neg j0, if_neg (by omega)]
