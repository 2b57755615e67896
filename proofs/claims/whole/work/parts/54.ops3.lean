def ARl (M : Mem) : Prop := (∀ j, rd M 60 j = rd M 35 j) ∧ (∀ j, rd M 61 j = rd M 36 j) ∧ (∀ j, rd M 62 j = rd M 37 j) ∧ (∀ j, rd M 63 j = rd M 41 j) ∧ (∀ j, rd M 64 j = rd M 42 j) ∧ rd M 59 8 = rd M 29 31 ∧ rd M 59 9 = rd M 29 8 ∧ ∀ j, j < 6 → rd M 65 j = rd M 52 (2 * j) ∧ rd M 66 j = rd M 52 (2 * j + 1)
theorem arl (M : Mem) : ARn M = ARl M := rfl
def AWl (M : Mem) (a c d : Nat) : Prop := (∀ p, p < c → ∃ x, x < a ∧ rd M 61 p = nI x) ∧ (0 < c → ∀ k, k < 2 → ∃ x, x < c ∧ rd M 62 k = nI x) ∧ (∀ k, k < d → ∃ x, 1 ≤ x ∧ x ≤ 9 ∧ rd M 63 k = nI x) ∧ (∀ k, k < 4 → zb (rd M 64 k)) ∧ (∃ s, s ≤ 6 ∧ rd M 59 8 = nI s ∧ ∀ j, j < s → ∃ x, x < d ∧ rd M 65 j = nI x) ∧ (∀ j, j < 6 → zb (rd M 66 j)) ∧ ∃ g, g ≤ 999 ∧ rd M 59 9 = nI g
theorem awl (M : Mem) (a c d : Nat) : AW M 59 a c d = AWl M a c d := rfl
theorem op_owe {n : Nat} {M : Mem} {v1 v2 : Int32} {A : Prop} {K : Mem → Prop} (hI : Inv n M) (hK : ∀ M', Inv n M' → K M') (hA : A) : wp_X11_owe (fun r M1 => A ∧ wp_X12_owe (fun r' M2 => (r = r' → K M2) ∧ (¬ r = r' → False)) M1 v1 v2) M v1 v2 := by
  obtain ⟨a, b, c, d, hc, hw, hr, ha, haw⟩ := hI.2
  have hd4 : d ≤ 4 := hc.2.2.2.2.2.2.2.2.2.2.2.1
  have c3 := hc.2.2.2.1
  have c7 := hc.2.2.2.2.2.2.2.1
  have hkI := hK M hI
  rw [arl] at ha
  unfold wp_X11_owe wp_X12_owe
  by_cases hp : vp_in v1 d
  · have hp4 : vp_in v1 4 := vp_le hp hd4
    by_cases h1 : v2 < 1
    · simp [eq_isNoDebt (n := d) c3 (by omega), eq_isDebt (n := d) c7 (by omega), eq_in, in19, hp, h1, hA, hkI]
    · by_cases h9 : v2 ≤ 9
      · simp [eq_isNoDebt (n := d) c3 (by omega), eq_isDebt (n := d), eq_in, in19, hp, hp4, h1, h9, hA, rd_wr, c7, show d < 1000 by omega, nar0]
        refine ⟨fun _ => hK _ ?_, ha.2.2.2.1 _⟩
        refine hI.now (fun q hq g1 g2 g3 g4 g5 g6 g7 j => by repeat rw [wr_n (by omega)]) (by repeat rw [wr_n (by omega)]) (fun k hk _ _ => by repeat rw [wr_n (by omega)]) (fun e => ?_) (fun a b c d e1 _ e => ?_)
        · obtain ⟨f1, f2, f3, f4, f5, f6, f7, f8⟩ := e
          have f1 : ∀ j, rd M 60 j = rd M 35 j := f1
          have f2 : ∀ j, rd M 61 j = rd M 36 j := f2
          have f3 : ∀ j, rd M 62 j = rd M 37 j := f3
          have f4 : ∀ j, rd M 63 j = rd M 41 j := f4
          have f5 : ∀ j, rd M 64 j = rd M 42 j := f5
          rw [arl]
          refine ⟨fun j => by simp [rd_wr, f1 j], fun j => by simp [rd_wr, f2 j], fun j => by simp [rd_wr, f3 j], fun j => by simp [rd_wr, f4 j], fun j => by simp [rd_wr, f5 j], by simp [rd_wr, f6], by simp [rd_wr, f7], fun j hj => by simp [rd_wr]; exact f8 j hj⟩
        · rw [awl] at e ⊢
          obtain ⟨g1, g2, g3, g4, g5, g6, g7⟩ := e
          have i1 : ¬ v2.toInt < 1 := fun z => h1 (Int32.lt_iff_toInt_lt.mpr z)
          have i9 : v2.toInt ≤ 9 := Int32.le_iff_toInt_le.mp h9
          refine ⟨fun p hp => by simp [rd_wr]; exact g1 p hp, fun hc k hk => by simp [rd_wr]; exact g2 hc k hk, fun k hk => ?_, fun k => ?_, ?_, fun j => by simp [rd_wr]; exact g6 j, by simp [rd_wr]; exact g7⟩
          · simp [rd_wr]
            by_cases hj : k = v1.toNatClampNeg
            · rw [if_pos hj]
              obtain ⟨j, hj1, hj2⟩ := nI_of (x := v2) (fun z => i1 (by have := lt0_iff.mp z; omega))
              rw [hj2, nI_toInt hj1] at i1 i9
              exact ⟨j, by omega, by omega, hj2⟩
            · rw [if_neg hj]; exact g3 k hk
          · simp [rd_wr]
            by_cases hj : k = v1.toNatClampNeg
            · rw [if_pos hj]; exact fun _ => Or.inl rfl
            · rw [if_neg hj]; exact g4 k
          · obtain ⟨s, s1, s2, s3⟩ := g5
            exact ⟨s, s1, by simp [rd_wr, s2], fun j hj => by simp [rd_wr]; exact s3 j hj⟩
      · simp [eq_isNoDebt (n := d) c3 (by omega), eq_isDebt (n := d) c7 (by omega), eq_in, in19, hp, h1, h9, hA, hkI]
  · simp [eq_isNoDebt (n := d) c3 (by omega), eq_isDebt (n := d) c7 (by omega), hp, hA, hkI]
theorem op_forget {n : Nat} {M : Mem} {K : Mem → Prop} (hI : Inv n M) (hK : ∀ M', Inv n M' → K M') : wp_X11_forget (fun r M1 => wp_X12_forget (fun r' M2 => (r = r' → K M2) ∧ (¬ r = r' → False)) M1) M := by
  obtain ⟨a, b, c, d, hc, hw, hr, ha, haw⟩ := hI.2
  rw [arl] at ha
  unfold wp_X11_forget wp_X12_forget
  simp [rd_wr]
  refine ⟨fun _ => hK _ ?_, ha.2.2.2.2.2.1⟩
  refine hI.now (fun q hq g1 g2 g3 g4 g5 g6 g7 j => ?_) (by repeat rw [wr_n (by omega)]) (fun k hk k1 k2 => ?_) (fun e => ?_) (fun a b c d e1 _ e => ?_)
  · rw [wr_n (fun z => by subst z; unfold core at hq; omega), wr_n (by omega)]
  · rw [wr_k _ k1, wr_n (by omega)]
  · rw [arl] at e ⊢
    obtain ⟨f1, f2, f3, f4, f5, f6, f7, f8⟩ := e
    exact ⟨fun j => by simp [rd_wr, f1 j], fun j => by simp [rd_wr, f2 j], fun j => by simp [rd_wr, f3 j], fun j => by simp [rd_wr, f4 j], fun j => by simp [rd_wr, f5 j], by simp [rd_wr], by simp [rd_wr, f7], fun j hj => by simp [rd_wr]; exact f8 j hj⟩
  · rw [awl] at e ⊢
    obtain ⟨g1, g2, g3, g4, g5, g6, g7⟩ := e
    exact ⟨fun p hp => by simp [rd_wr]; exact g1 p hp, fun hc k hk => by simp [rd_wr]; exact g2 hc k hk, fun k hk => by simp [rd_wr]; exact g3 k hk, fun k => by simp [rd_wr]; exact g4 k, ⟨0, by omega, by simp [rd_wr]; rfl, fun j hj => absurd hj (by omega)⟩, fun j => by simp [rd_wr]; exact g6 j, by simp [rd_wr]; exact g7⟩
/-- a change of the page alone -/
theorem Inv.page {n : Nat} {M M' : Mem} (h : Inv n M) (hC : ∀ q, core q → q ≠ 2 → q ≠ 30 → ∀ j, rd M' q j = rd M q j) (h29 : ∀ k, slots29 k → k ≠ 1 → rd M' 29 k = rd M 29 k) (hp : PG M → PG M') : Inv n M' := by
  obtain ⟨e0, a, b, c, d, e1, e2, e3, e4, e5, e6, e7, e8, e9⟩ := h
  have hx : ∀ q, core q → q ≠ 2 → q ≠ 30 → ∀ j, rd M' q j = rd M q j := hC
  have eqx : ∀ {q q' : Nat}, (core q ∧ q ≠ 2 ∧ q ≠ 30) → (core q' ∧ q' ≠ 2 ∧ q' ≠ 30) → EQ M q q' → EQ M' q q' := fun h1 h2 e j => by rw [hx _ h1.1 h1.2.1 h1.2.2, hx _ h2.1 h2.2.1 h2.2.2]; exact e j
  have ck : ∀ q, (q = 0 ∨ 3 ≤ q ∧ q ≤ 14 ∨ 31 ≤ q ∧ q ≤ 42 ∨ 52 ≤ q ∧ q ≤ 74) → core q ∧ q ≠ 2 ∧ q ≠ 30 := fun q hq => ⟨by unfold core; omega, by omega, by omega⟩
  have s29 : ∀ k, slots29 k → k ≠ 1 → rd M' 29 k = rd M 29 k := h29
  have cx : ∀ q, (q = 0 ∨ 3 ≤ q ∧ q ≤ 14 ∨ 31 ≤ q ∧ q ≤ 42 ∨ 52 ≤ q ∧ q ≤ 74) → ∀ j, rd M' q j = rd M q j := fun q hq j => hx q (ck q hq).1 (ck q hq).2.1 (ck q hq).2.2 j
  have sx : ∀ k, (4 ≤ k ∧ k ≤ 9 ∨ k = 31 ∨ 34 ≤ k ∧ k ≤ 36) → rd M' 29 k = rd M 29 k := fun k hk => s29 k (by unfold slots29; omega) (by omega)
  refine ⟨e0, a, b, c, d, ?_, ?_, ?_, ?_, aw_congr (fun i hi j => cx (59 + i) (by omega) j) e5, ?_, ?_, hp e8, ?_⟩
  · unfold CN at e1 ⊢
    have h3 := cx 3 (by omega)
    rw [h3, h3, h3, h3, sx 4 (by omega), sx 5 (by omega), sx 6 (by omega), sx 7 (by omega)]
    exact e1
  · obtain ⟨f1, f2, f3⟩ := e2
    refine ⟨fun k hk => ?_, fun p hp => ?_, fun k hk => ?_⟩
    · rw [cx 4 (by omega), cx 5 (by omega), cx 6 (by omega)]; exact f1 k hk
    · rw [cx (11 + p) (by omega)]; exact f2 p hp
    · rw [cx 8 (by omega), cx 9 (by omega), cx 10 (by omega)]; exact f3 k hk
  · obtain ⟨f1, f2, f3, f4, f5, f6, f7⟩ := e3
    exact ⟨eqx (ck _ (by omega)) (ck _ (by omega)) f1, eqx (ck _ (by omega)) (ck _ (by omega)) f2, eqx (ck _ (by omega)) (ck _ (by omega)) f3, fun p hp => by rw [cx (11 + p) (by omega), cx 34 (by omega)]; exact f4 p hp, eqx (ck _ (by omega)) (ck _ (by omega)) f5, eqx (ck _ (by omega)) (ck _ (by omega)) f6, eqx (ck _ (by omega)) (ck _ (by omega)) f7⟩
  · obtain ⟨f1, f2, f3, f4, f5, f6, f7, f8⟩ := e4
    exact ⟨eqx (ck _ (by omega)) (ck _ (by omega)) f1, eqx (ck _ (by omega)) (ck _ (by omega)) f2, eqx (ck _ (by omega)) (ck _ (by omega)) f3, eqx (ck _ (by omega)) (ck _ (by omega)) f4, eqx (ck _ (by omega)) (ck _ (by omega)) f5, by rw [cx 59 (by omega), sx 31 (by omega)]; exact f6, by rw [cx 59 (by omega), sx 8 (by omega)]; exact f7, fun j hj => by rw [cx (59 + 6) (by omega), cx (59 + 7) (by omega), cx 52 (by omega), cx 52 (by omega)]; exact f8 j hj⟩
  · obtain ⟨f1, f2, f3, f4, f5, f6, f7, f8⟩ := e6
    exact ⟨eqx (ck _ (by omega)) (ck _ (by omega)) f1, eqx (ck _ (by omega)) (ck _ (by omega)) f2, eqx (ck _ (by omega)) (ck _ (by omega)) f3, eqx (ck _ (by omega)) (ck _ (by omega)) f4, eqx (ck _ (by omega)) (ck _ (by omega)) f5, by rw [cx 67 (by omega), sx 36 (by omega)]; exact f6, by rw [cx 67 (by omega), sx 35 (by omega)]; exact f7, fun j hj => by rw [cx (67 + 6) (by omega), cx (67 + 7) (by omega), cx 58 (by omega), cx 58 (by omega)]; exact f8 j hj⟩
  · intro z
    rw [cx 0 (by omega)] at z
    exact aw_congr (fun i hi j => cx (67 + i) (by omega) j) (e7 z)
  · unfold KP at e9 ⊢
    rw [cx 0 (by omega), cx 0 (by omega), sx 9 (by omega), sx 34 (by omega)]
    exact e9
theorem op_blank {n : Nat} {M : Mem} {K : Mem → Prop} (hI : Inv n M) (hK : ∀ M', Inv n M' → K M') : wp_X11_blank (fun r M1 => wp_X12_blank (fun r' M2 => (r = r' → K M2) ∧ (¬ r = r' → False)) M1) M := by
  obtain ⟨a, b, c, d, hc, hw, hr, ha, haw, hk, hkw, ⟨l, l1, l2, l3, l4, l5⟩, hkp⟩ := hI.2
  unfold wp_X11_blank wp_X12_blank
  simp [rd_wr]
  refine ⟨fun _ => hK _ ?_, by rw [l2, l3]⟩
  refine hI.page (fun q hq g1 g2 j => ?_) (fun k hk k1 => ?_) (fun e => ⟨0, by omega, by simp [rd_wr]; rfl, by simp [rd_wr]; rfl, fun j => by simp [rd_wr]; exact l4 j, fun j hj => absurd hj (by omega)⟩)
  · rw [wr_n (fun z => by subst z; unfold core at hq; omega), wr_n (fun z => by subst z; unfold core at hq; omega)]
  · rw [wr_k _ k1, wr_n (by omega)]
theorem op_letter {n : Nat} {M : Mem} {v : Int32} {A : Prop} {K : Mem → Prop} (hI : Inv n M) (hK : ∀ M', Inv n M' → K M') (hA : A) : wp_X11_letter (fun r M1 => A ∧ wp_X12_letter (fun r' M2 => (r = r' → K M2) ∧ (¬ r = r' → False)) M1 v) M v := by
  obtain ⟨a, b, c, d, hc, hw, hr, ha, haw, hk, hkw, ⟨l, l1, l2, l3, l4, l5⟩, hkp⟩ := hI.2
  have hkI := hK M hI
  have i1 : ((1 : Int64) ≤ v.toInt64 ∧ v.toInt64 ≤ 126) ↔ (¬ v < 1 ∧ v ≤ 126) := by
    rw [in_iff (lo := 1) (hi := 126) (by decide) (by decide), Int32.lt_iff_toInt_lt, Int32.le_iff_toInt_le]
    have h1 : (1 : Int32).toInt = 1 := by decide
    have h2 : (126 : Int32).toInt = 126 := by decide
    rw [h1, h2]
    omega
  unfold wp_X11_letter wp_X12_letter wp_X6_append
  by_cases h1 : v < 1
  · simp [h1, hA, eq_in, i1, hkI]
  by_cases h2 : v ≤ 126
  · have e64 : (nI l < 64) ↔ l < 64 := by
      show nI l < nI 64 ↔ _
      exact nI_ltI (by omega) (by omega)
    have q64 : (nI l = 64) ↔ l = 64 := by
      show nI l = nI 64 ↔ _
      exact nI_eq (by omega) (by omega)
    by_cases hl : l < 64
    · have hin : vp_in (nI l) 64 := vp_in_nI hl (by omega)
      have hne : ¬ l = 64 := by omega
      simp [h1, h2, hA, eq_in, i1, l2, l3, e64, q64, hl, hne, hin, rd_wr]
      refine hK _ (hI.page (fun q hq g1 g2 j => ?_) (fun k hk k1 => ?_) (fun _ => ⟨l + 1, by omega, ?_, ?_, fun j => ?_, fun j hj => ?_⟩))
      · rw [wr_n (fun z => by subst z; unfold core at hq; omega), wr_n g2, wr_n (fun z => by subst z; unfold core at hq; omega), wr_n g1]
      · rw [wr_k _ k1, wr_n (by omega), wr_n (by omega), wr_n (by omega)]
      · simp [rd_wr]; exact nI_1 l
      · simp [rd_wr]; exact nI_1 l
      · simp [rd_wr, l4 j]
      · simp [rd_wr]
        by_cases hj2 : j = (nI l).toNatClampNeg
        · rw [if_pos hj2]
          have a1 : ¬ v.toInt < 1 := fun z => h1 (Int32.lt_iff_toInt_lt.mpr z)
          have a2 : v.toInt ≤ 126 := Int32.le_iff_toInt_le.mp h2
          obtain ⟨x, hx1, hx2⟩ := nI_of (x := v) (fun z => a1 (by have := lt0_iff.mp z; omega))
          rw [hx2, nI_toInt hx1] at a1 a2
          exact ⟨x, by omega, by omega, hx2⟩
        · rw [if_neg hj2]
          rw [nI_clamp (by omega)] at hj2
          exact l5 j (by omega)
    · have hle : l = 64 := by omega
      simp [h1, h2, hA, eq_in, i1, l2, l3, e64, q64, hl, hle, hkI]
      subst hle
      have e : nI 64 = 64 := rfl
      simp [e, hkI]
  · simp [h1, h2, hA, eq_in, i1, hkI]
