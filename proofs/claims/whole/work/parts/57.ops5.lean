theorem op_give {n : Nat} {M : Mem} {v1 v2 : Int32} {A : Prop} {K : Mem → Prop} (hI : Inv n M) (hK : ∀ M', Inv n M' → K M') (hA : A) : wp_X11_give (fun r M1 => A ∧ wp_X12_give (fun r' M2 => (r = r' → K M2) ∧ (¬ r = r' → False)) M1 v1 v2) M v1 v2 := by
  obtain ⟨a, b, c, d, hc, hw, hr, ha, haw, -⟩ := hI.2
  have hkI := hK M hI
  obtain ⟨c0', c1', c2', c3', c4', c5', c6', c7', ba, bb, bc, bd, -⟩ := hc
  rw [arl] at ha
  have i01 : ((0 : Int64) ≤ v1.toInt64 ∧ v1.toInt64 ≤ 1) ↔ vp_in v1 2 := by
    rw [in_iff (lo := 0) (hi := 1) (by decide) (by decide), vp_iff]
    omega
  have l0 : v1 < 0 ↔ v1.toInt < 0 := lt0_iff
  have l2 : 2 ≤ v1 ↔ 2 ≤ v1.toInt := by rw [Int32.le_iff_toInt_le]; rfl
  unfold wp_X11_give wp_X12_give
  by_cases hk : vp_in v1 2
  · have hk' := vp_iff.mp hk
    have n0 : ¬ v1 < 0 := by rw [l0]; omega
    have n2 : ¬ 2 ≤ v1 := by rw [l2]; omega
    by_cases hp : vp_in v2 c
    · have hp4 : vp_in v2 4 := vp_le hp bc
      obtain ⟨k, hk1, rfl⟩ := vp_ex hk (by omega)
      obtain ⟨p, hp1, rfl⟩ := vp_ex hp (by omega)
      have e1 := cl4 (p := k) (by omega)
      have e2 := cl4 (p := p) (by omega)
      obtain ⟨x, hx1, hx2⟩ := haw.2.1 (by omega) k hk1
      have hx2 : rd M 62 k = nI x := hx2
      have e3 := cl4 (p := x) (by omega)
      have hx4 : vp_in (nI x) 4 = True := in_n (by omega) (by omega)
      have hx37 : rd M 37 k = nI x := (ha.2.2.1 k).symm.trans hx2
      have f36 : ∀ j, rd M 36 j = rd M 61 j := fun j => (ha.2.1 j).symm
      by_cases hs : nI x = nI p
      · simp [n0, n2, eq_isNobody c2' (show c < 1000 by omega), eq_isPerson c6' (show c < 1000 by omega), eq_in, i01, hk, hp, hA, hkI, e1, hx2, hx37, hs]
      · by_cases hsr : rd M 61 x = rd M 61 p
        · simp [n0, n2, eq_isNobody c2' (show c < 1000 by omega), eq_isPerson (n := c), show c < 1000 by omega, c6', eq_in, i01, hk, hp, hp4, hA, e1, e2, e3, hx2, hx37, hx4, hs, f36, hsr, rd_wr]
          refine hK _ (hI.now (fun q hq g1 g2 g3 g4 g5 g6 g7 j => by repeat rw [wr_n (by omega)]) (by repeat rw [wr_n (by omega)]) (fun k hk _ _ => by repeat rw [wr_n (by omega)]) (fun e => ?_) (fun a2 b2 c2 d2 q1 q2 e => ?_))
          · rw [arl] at e ⊢
            obtain ⟨f1, f2, f3, f4, f5, f6, f7, f8⟩ := e
            exact ⟨fun j => by simp [rd_wr, f1 j], fun j => by simp [rd_wr, f2 j], fun j => by simp [rd_wr, f3 j], fun j => by simp [rd_wr, f4 j], fun j => by simp [rd_wr, f5 j], by simp [rd_wr, f6], by simp [rd_wr, f7], fun j hj => by simp [rd_wr]; exact f8 j hj⟩
          · rw [awl] at e ⊢
            obtain ⟨g1, g2, g3, g4, g5, g6, g7⟩ := e
            have hcc : c = c2 := (nI_eq (by omega) (by have := q1.2.2.2.2.2.2.2.2.2.2.1; omega)).mp (c2'.symm.trans q1.2.2.1)
            refine ⟨fun p hp => by simp [rd_wr]; exact g1 p hp, fun hc j hj => ?_, fun k hk => by simp [rd_wr]; exact g3 k hk, fun k => by simp [rd_wr]; exact g4 k, ?_, fun j => by simp [rd_wr]; exact g6 j, by simp [rd_wr]; exact g7⟩
            · simp [rd_wr]
              by_cases hj2 : j = k
              · rw [if_pos hj2]; exact ⟨p, by omega, rfl⟩
              · rw [if_neg hj2]; exact g2 hc j hj
            · obtain ⟨s, s1, s2, s3⟩ := g5
              exact ⟨s, s1, by simp [rd_wr, s2], fun j hj => by simp [rd_wr]; exact s3 j hj⟩
        · simp [n0, n2, eq_isNobody c2' (show c < 1000 by omega), eq_isPerson c6' (show c < 1000 by omega), eq_in, i01, hk, hp, hp4, hA, hkI, e1, e2, e3, hx2, hx37, hx4, hs, f36, hsr]
    · simp [n0, n2, eq_isNobody c2' (show c < 1000 by omega), eq_isPerson c6' (show c < 1000 by omega), eq_in, i01, hk, hp, hA, hkI]
  · by_cases n0 : v1 < 0
    · simp [n0, eq_in, i01, hk, hA, hkI]
    · by_cases n2 : 2 ≤ v1
      · simp [n0, n2, eq_in, i01, hk, hA, hkI]
      · exact absurd (vp_iff.mpr ⟨by rw [l0] at n0; omega, by rw [l2] at n2; omega⟩) hk
theorem op_see {n : Nat} {M : Mem} {v1 v2 : Int32} {A : Prop} {K : Mem → Prop} (hI : Inv n M) (hK : ∀ M', Inv n M' → K M') (hz : zb v2) (hA : A) : wp_X11_see (fun r M1 => A ∧ wp_X12_see (fun r' M2 => (r = r' → K M2) ∧ (¬ r = r' → False)) M1 v1 v2) M v1 v2 := by
  obtain ⟨a, b, c, d, hc, hw, hr, ha, haw, -⟩ := hI.2
  have hkI := hK M hI
  obtain ⟨c0', c1', c2', c3', c4', c5', c6', c7', ba, bb, bc, bd, -⟩ := hc
  rw [arl] at ha
  rw [awl] at haw
  obtain ⟨s, s1, s2, s3⟩ := haw.2.2.2.2.1
  have s4 : rd M 29 31 = nI s := ha.2.2.2.2.2.1.symm.trans s2
  have e6 : (nI s < 6) ↔ s < 6 := nI_ltI (a := s) (b := 6) (by omega) (by omega)
  have q6 : (nI s = 6) ↔ s = 6 := nI_eq (a := s) (b := 6) (by omega) (by omega)
  have nv : vp_nar .boolean v2 = v2 := by rcases hz with rfl | rfl <;> decide
  have m2 : (2 : Int32) * nI s = nI (2 * s) := pk_mul 2 s
  have m3 : nI (2 * s) + 1 = nI (2 * s + 1) := nI_1 _
  have e1 := cl4 (p := s) (by omega)
  have e2 := cl4 (p := 2 * s) (by omega)
  have e3 := cl4 (p := 2 * s + 1) (by omega)
  unfold wp_X11_see wp_X12_see wp_X12_see_b56
  by_cases hp : vp_in v1 d
  · by_cases hs : s < 6
    · have i1 : vp_in (nI s) 6 = True := in_n hs (by omega)
      have i2 : vp_in (nI (2 * s)) 12 = True := in_n (by omega) (by omega)
      have i3 : vp_in (nI (2 * s + 1)) 12 = True := in_n (by omega) (by omega)
      have hne : ¬ s = 6 := by omega
      have g6 : ¬ (6 : Int32) ≤ nI s := fun z => absurd ((nI_leI (a := 6) (b := s) (by omega) (by omega)).mp z) (by omega)
      obtain ⟨k, hk1, rfl⟩ := vp_ex hp (by omega)
      have fin : ∀ w, w = v2 → K (wr (wr (wr (wr (wr (wr M 65 s (nI k)) 66 s v2) 59 8 (nI s + 1)) 52 (2 * s) (nI k)) 52 (2 * s + 1) w) 29 31 (nI s + 1)) := by
        intro w hw2
        subst hw2
        refine hK _ (hI.now (fun q hq g1 g2 g3 g4 g5 g6 g7 j => ?_) (by repeat rw [wr_n (by omega)]) (fun k hk k1 k2 => ?_) (fun e => ?_) (fun a2 b2 c2 d2 q1 q2 e => ?_))
        · rw [wr_n (fun z => by subst z; unfold core at hq; omega), wr_n (by omega), wr_n (by omega), wr_n (by omega), wr_n (by omega), wr_n (by omega)]
        · rw [wr_k _ k1, wr_n (by omega), wr_n (by omega), wr_n (by omega), wr_n (by omega), wr_n (by omega)]
        · rw [arl] at e ⊢
          obtain ⟨f1, f2, f3, f4, f5, f6, f7, f8⟩ := e
          refine ⟨fun j => by simp [rd_wr, f1 j], fun j => by simp [rd_wr, f2 j], fun j => by simp [rd_wr, f3 j], fun j => by simp [rd_wr, f4 j], fun j => by simp [rd_wr, f5 j], by simp [rd_wr], by simp [rd_wr, f7], fun j hj => ?_⟩
          have := f8 j hj
          by_cases hj2 : j = s
          · subst hj2
            refine ⟨?_, ?_⟩
            · simp [rd_wr, show ¬ 2 * j = 2 * j + 1 by omega]
            · simp [rd_wr]
          · refine ⟨?_, ?_⟩
            · simp [rd_wr, hj2, show ¬ 2 * j = 2 * s + 1 by omega, show ¬ 2 * j = 2 * s by omega]; exact this.1
            · simp [rd_wr, hj2, show ¬ 2 * j + 1 = 2 * s by omega, show ¬ 2 * j = 2 * s by omega]; exact this.2
        · rw [awl] at e ⊢
          obtain ⟨g1, g2, g3, g4, g5, g6, g7⟩ := e
          have hdd : d = d2 := (nI_eq (by omega) (by have := q1.2.2.2.2.2.2.2.2.2.2.2.1; omega)).mp (c3'.symm.trans q1.2.2.2.1)
          refine ⟨fun p hp => by simp [rd_wr]; exact g1 p hp, fun hc j hj => by simp [rd_wr]; exact g2 hc j hj, fun k hk => by simp [rd_wr]; exact g3 k hk, fun k => by simp [rd_wr]; exact g4 k, ⟨s + 1, by omega, by simp [rd_wr]; exact nI_1 s, fun j hj => ?_⟩, fun j => ?_, by simp [rd_wr]; exact g7⟩
          · simp [rd_wr]
            by_cases hj2 : j = s
            · rw [if_pos hj2]; exact ⟨k, by omega, rfl⟩
            · rw [if_neg hj2, ← hdd]; exact s3 j (by omega)
          · simp [rd_wr]
            by_cases hj2 : j = s
            · rw [if_pos hj2]; exact fun _ => hz
            · rw [if_neg hj2]; exact g6 j
      rcases hz with rfl | rfl
      · simp [eq_isNoDebt c3' (show d < 1000 by omega), eq_isDebt (n := d), show d < 1000 by omega, c7', hp, hA, s2, s4, e6, q6, g6, hs, hne, i1, i2, i3, e1, e2, e3, m2, m3, nar0, rd_wr]
        exact fin 0 rfl
      · simp [eq_isNoDebt c3' (show d < 1000 by omega), eq_isDebt (n := d), show d < 1000 by omega, c7', hp, hA, s2, s4, e6, q6, g6, hs, hne, i1, i2, i3, e1, e2, e3, m2, m3, nar1, rd_wr]
        exact fin 1 rfl
    · have hs6 : s = 6 := by omega
      subst hs6
      simp [eq_isNoDebt c3' (show d < 1000 by omega), eq_isDebt c7' (show d < 1000 by omega), hp, hA, hkI, s2, s4, e6, q6]
  · simp [eq_isNoDebt c3' (show d < 1000 by omega), eq_isDebt c7' (show d < 1000 by omega), hp, hA, hkI]
theorem op_door {n : Nat} {M : Mem} {v1 v2 : Int32} {A : Prop} {K : Mem → Prop} (hI : Inv n M) (hK : ∀ M', Inv n M' → K M') (hA : A) : wp_X11_door (fun r M1 => A ∧ wp_X12_door (fun r' M2 => (r = r' → K M2) ∧ (¬ r = r' → False)) M1 v1 v2) M v1 v2 := by
  obtain ⟨a, b, c, d, hc, hw, hr, ha, haw, -⟩ := hI.2
  have hkI := hK M hI
  obtain ⟨c0', c1', c2', c3', c4', c5', c6', c7', ba, bb, bc, bd, -⟩ := hc
  obtain ⟨h4, h5, h6, -⟩ := hr
  have h4 : ∀ j, rd M 4 j = rd M 31 j := h4
  have h5 : ∀ j, rd M 5 j = rd M 32 j := h5
  have h6 : ∀ j, rd M 6 j = rd M 33 j := h6
  unfold wp_X11_door wp_X12_door wp_X12_tellDoor
  by_cases hd : vp_in v1 b
  · have hd6 : vp_in v1 6 := vp_le hd bb
    by_cases x0 : v2 = 0
    · simp [eq_isNoDoor c1' (show b < 1000 by omega), eq_isDoor c5' (show b < 1000 by omega), hd, hd6, hA, x0, h4, hkI]
    by_cases x1 : v2 = 1
    · simp [eq_isNoDoor c1' (show b < 1000 by omega), eq_isDoor c5' (show b < 1000 by omega), hd, hd6, hA, x1, h5, hkI]
    by_cases x2 : v2 = 2
    · simp [eq_isNoDoor c1' (show b < 1000 by omega), eq_isDoor c5' (show b < 1000 by omega), hd, hd6, hA, x2, h6, hkI]
    simp [eq_isNoDoor c1' (show b < 1000 by omega), eq_isDoor c5' (show b < 1000 by omega), hd, hA, x0, x1, x2, hkI]
  · simp [eq_isNoDoor c1' (show b < 1000 by omega), eq_isDoor c5' (show b < 1000 by omega), hd, hA, hkI]
