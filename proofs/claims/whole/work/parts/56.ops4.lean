theorem rdf {M : Mem} {q k a : Nat} {v : Int32} (h : a ≠ q) : rd (wr M q k v) a = rd M a := funext fun b => wr_n h b
theorem vp_ex {v : Int32} {n : Nat} (h : vp_in v n) (hn : n < 1000) : ∃ p, p < n ∧ v = nI p := vp_in_of h (by omega)
def goM (M : Mem) (p d : Nat) : Prop := atP (rd M 31) (rd M 32) d (rd M 36 p) ∧ pasP (rd M 33) (rd M 34) (rd M 37) p d
theorem eq_X12_go {Post : Int32 → Mem → Prop} {M : Mem} {p d b c : Nat} (c6 : rd M 29 6 = nI c) (c5 : rd M 29 5 = nI b) (hp : p < c) (hc : c ≤ 4) (hd : d < b) (hb : b ≤ 6) (hl : lkOK (rd M 33 d)) (hnn : ¬ byd (rd M 31) (rd M 32) d (rd M 36 p) = -1) : wp_X12_go Post M (nI p) (nI d) = ((goM M p d → (¬ rd M 29 8 = 999 → Post (byd (rd M 31) (rd M 32) d (rd M 36 p)) (wr (wr M 36 p (byd (rd M 31) (rd M 32) d (rd M 36 p))) 29 8 (rd M 29 8 + 1))) ∧ (rd M 29 8 = 999 → Post (-104) M)) ∧ (¬ goM M p d → Post (-103) M)) := by
  have e1 := cl4 (p := p) (by omega)
  have i1 := in_n (p := p) (n := 4) (by omega) (by omega)
  have i2 : vp_in (nI p) c = True := in_n hp (by omega)
  have i3 : vp_in (nI d) b = True := in_n hd (by omega)
  unfold wp_X12_go
  rw [eq_isPerson c6 (by omega), i2, eq_isDoor c5 (by omega), i3]
  simp only [e1, i1, true_and]
  rw [eq_through (by omega) (by omega) hl]
  by_cases hg : goM M p d
  · have hg' := hg
    unfold goM at hg'
    simp [hg, hg'.1, hg'.2, hnn, rd_wr]
  · have hg' := hg
    unfold goM at hg'
    simp only [hg, hg']
    simp
theorem eq_X11_go {Post : Int32 → Mem → Prop} {M : Mem} {p d b c : Nat} (c2 : rd M 3 2 = nI c) (c1 : rd M 3 1 = nI b) (hp : p < c) (hc : c ≤ 4) (hd : d < b) (hb : b ≤ 6) (hl : lkOK (rd M 6 d)) : wp_X11_go Post M (nI p) (nI d) = ((goP M 59 p d → (rd M 59 9 < 999 → Post (byd (rd M 4) (rd M 5) d (rd M 61 p)) (wr (wr M 61 p (byd (rd M 4) (rd M 5) d (rd M 61 p))) 59 9 (rd M 59 9 + 1))) ∧ (¬ rd M 59 9 < 999 → Post (-104) M)) ∧ (¬ goP M 59 p d → Post (-103) M)) := by
  have e1 := cl4 (p := p) (by omega)
  have i1 := in_n (p := p) (n := 4) (by omega) (by omega)
  have i2 : vp_in (nI p) c = True := in_n hp (by omega)
  have i3 : vp_in (nI d) b = True := in_n hd (by omega)
  unfold wp_X11_go
  rw [eq_isNobody c2 (by omega), i2, eq_isNoDoor c1 (by omega), i3, eq_mayGo (by omega) (by omega) hl, eq_goThrough (by omega) (by omega)]
  simp only [e1, i1, true_and]
  by_cases hg : goP M 59 p d
  · simp [hg, rd_wr]
  · simp [hg]
theorem pas_congr {lck knd hld lck' knd' hld' : Nat → Int32} {p d : Nat} (h1 : lck d = lck' d) (h2 : knd p = knd' p) (h3 : ∀ j, hld j = hld' j) : pasP lck knd hld p d ↔ pasP lck' knd' hld' p d := by
  unfold pasP
  rw [h1, h2, h3]
theorem byd_lt {M : Mem} {a b c d k : Nat} {r : Int32} (hw : HW M a b c d) (hk : k < b) : ∃ x, x < a ∧ byd (rd M 4) (rd M 5) k r = nI x := by
  obtain ⟨x, y, hx, hy, hxy, e1, e2, -⟩ := hw.1 k hk
  unfold byd
  by_cases h : rd M 4 k = r
  · rw [if_pos h]; exact ⟨y, hy, e2⟩
  · rw [if_neg h]; exact ⟨x, hx, e1⟩
theorem nI_nm1 {x : Nat} (h : x < 1000) : ¬ nI x = -1 := fun e => by
  have := congrArg Int32.toInt e
  rw [nI_toInt (by omega)] at this
  have h2 : (-1 : Int32).toInt = -1 := by decide
  omega
theorem lk_of {M : Mem} {a b c d k : Nat} (hw : HW M a b c d) (hk : k < b) : lkOK (rd M 6 k) := by
  obtain ⟨x, y, hx, hy, hxy, e1, e2, e3⟩ := hw.1 k hk
  exact e3
theorem op_go {n : Nat} {M : Mem} {v1 v2 : Int32} {A : Prop} {K : Mem → Prop} (hI : Inv n M) (hK : ∀ M', Inv n M' → K M') (hA : A) : wp_X11_go (fun r M1 => A ∧ wp_X12_go (fun r' M2 => (r = r' → K M2) ∧ (¬ r = r' → False)) M1 v1 v2) M v1 v2 := by
  obtain ⟨a, b, c, d, hc, hw, hr, ha, haw, -⟩ := hI.2
  have hkI := hK M hI
  obtain ⟨c0', c1', c2', c3', c4', c5', c6', c7', ba, bb, bc, bd, -⟩ := hc
  rw [arl] at ha
  by_cases hp : vp_in v1 c
  · by_cases hd : vp_in v2 b
    · obtain ⟨p, hp1, rfl⟩ := vp_ex hp (by omega)
      obtain ⟨k, hk1, rfl⟩ := vp_ex hd (by omega)
      obtain ⟨h4, h5, h6, hkk, -⟩ := hr
      have h4 : ∀ j, rd M 4 j = rd M 31 j := h4
      have h5 : ∀ j, rd M 5 j = rd M 32 j := h5
      have h6 : ∀ j, rd M 6 j = rd M 33 j := h6
      obtain ⟨x, hx1, hx2⟩ := byd_lt (r := rd M 61 p) hw hk1
      have hl := lk_of hw hk1
      obtain ⟨g, hg1, hg2⟩ := haw.2.2.2.2.2.2
      have hg2 : rd M 59 9 = nI g := hg2
      have f4 : rd M 31 = rd M 4 := funext fun j => (h4 j).symm
      have f5 : rd M 32 = rd M 5 := funext fun j => (h5 j).symm
      have f6 : rd M 33 = rd M 6 := funext fun j => (h6 j).symm
      have f36 : rd M 36 = rd M 61 := funext fun j => (ha.2.1 j).symm
      have f37 : rd M 37 = rd M 62 := funext fun j => (ha.2.2.1 j).symm
      have eg : goM M p k ↔ goP M 59 p k := by
        unfold goM goP
        rw [f4, f5, f36, f6, f37]
        have := pas_congr (lck := rd M 6) (knd := rd M 34) (hld := rd M 62) (lck' := rd M 6) (knd' := kd M) (hld' := rd M (59 + 3)) (p := p) (d := k) rfl (hkk p (by omega)).symm (fun _ => rfl)
        rw [this]
      rw [eq_X11_go c2' c1' hp1 bc hk1 bb hl]
      have m999 : rd M 29 8 = 999 ↔ ¬ rd M 59 9 < 999 := by
        rw [← ha.2.2.2.2.2.2.1, hg2]
        have e1 : nI g < 999 ↔ g < 999 := nI_ltI (a := g) (b := 999) (by omega) (by omega)
        have e2 : nI g = 999 ↔ g = 999 := nI_eq (a := g) (b := 999) (by omega) (by omega)
        rw [e1, e2]
        omega
      refine ⟨fun hg => ⟨fun hlt => ⟨hA, ?_⟩, fun hge => ⟨hA, ?_⟩⟩, fun hg => ⟨hA, ?_⟩⟩
      · have q : ∀ a, a ≠ 61 → a ≠ 59 → rd (wr (wr M 61 p (byd (rd M 4) (rd M 5) k (rd M 61 p))) 59 9 (rd M 59 9 + 1)) a = rd M a := fun a h1 h2 => by rw [rdf h2, rdf h1]
        rw [eq_X12_go (c := c) (b := b) (by rw [q 29 (by omega) (by omega)]; exact c6') (by rw [q 29 (by omega) (by omega)]; exact c5') hp1 bc hk1 bb (by rw [q 33 (by omega) (by omega), f6]; exact hl) (by rw [q 31 (by omega) (by omega), q 32 (by omega) (by omega), q 36 (by omega) (by omega), f4, f5, f36, hx2]; exact nI_nm1 (by omega))]
        have eg2 : goM (wr (wr M 61 p (byd (rd M 4) (rd M 5) k (rd M 61 p))) 59 9 (rd M 59 9 + 1)) p k ↔ goM M p k := by
          unfold goM
          rw [q 31 (by omega) (by omega), q 32 (by omega) (by omega), q 36 (by omega) (by omega), q 33 (by omega) (by omega), q 34 (by omega) (by omega), q 37 (by omega) (by omega)]
        refine ⟨fun _ => ⟨fun _ => fin_eq ?_ (hK _ ?_), fun z => ?_⟩, fun z => absurd (eg2.mpr (eg.mpr hg)) z⟩
        · rw [q 31 (by omega) (by omega), q 32 (by omega) (by omega), q 36 (by omega) (by omega), f4, f5, f36]
        · rw [q 31 (by omega) (by omega), q 32 (by omega) (by omega), q 36 (by omega) (by omega), q 29 (by omega) (by omega), f4, f5, f36]
          refine hI.now (fun q hq g1 g2 g3 g4 g5 g6 g7 j => ?_) (by repeat rw [wr_n (by omega)]) (fun s hs k1 k2 => ?_) (fun e => ?_) (fun a2 b2 c2 d2 e1 e2 e => ?_)
          · rw [wr_n (fun z => by subst z; unfold core at hq; omega), wr_n (by omega), wr_n (by omega), wr_n (by omega)]
          · rw [wr_k _ k2, wr_n (by omega), wr_n (by omega), wr_n (by omega)]
          · rw [arl] at e ⊢
            obtain ⟨f1, f2, f3, f4, f5, f6, f7, f8⟩ := e
            exact ⟨fun j => by simp [rd_wr, f1 j], fun j => by simp [rd_wr, f2 j], fun j => by simp [rd_wr, f3 j], fun j => by simp [rd_wr, f4 j], fun j => by simp [rd_wr, f5 j], by simp [rd_wr, f6], by simp [rd_wr, f7], fun j hj => by simp [rd_wr]; exact f8 j hj⟩
          · rw [awl] at e ⊢
            obtain ⟨g1, g2, g3, g4, g5, g6, g7⟩ := e
            have hb2 : nI b = nI b2 := c1'.symm.trans e1.2.1
            have bb2 := e1.2.2.2.2.2.2.2.2.2.1
            have hbb : b = b2 := (nI_eq (by omega) (by omega)).mp hb2
            obtain ⟨x2, hx3, hx4⟩ := byd_lt (r := rd M 61 p) e2 (hbb ▸ hk1)
            refine ⟨fun p2 hp2 => ?_, fun hc k hk => by simp [rd_wr]; exact g2 hc k hk, fun k hk => by simp [rd_wr]; exact g3 k hk, fun k => by simp [rd_wr]; exact g4 k, ?_, fun j => by simp [rd_wr]; exact g6 j, ⟨g + 1, ?_, ?_⟩⟩
            · simp [rd_wr]
              by_cases hj : p2 = p
              · rw [if_pos hj]; exact ⟨x2, hx3, hx4⟩
              · rw [if_neg hj]; exact g1 p2 hp2
            · obtain ⟨s, s1, s2, s3⟩ := g5
              exact ⟨s, s1, by simp [rd_wr, s2], fun j hj => by simp [rd_wr]; exact s3 j hj⟩
            · rw [hg2] at hlt
              have : g < 999 := (nI_ltI (a := g) (b := 999) (by omega) (by omega)).mp hlt
              omega
            · simp [rd_wr, hg2]; exact nI_1 g
        · rw [q 29 (by omega) (by omega)] at z
          exact absurd hlt (m999.mp z)
      · rw [eq_X12_go c6' c5' hp1 bc hk1 bb (by rw [f6]; exact hl) (by rw [f4, f5, f36, hx2]; exact nI_nm1 (by omega))]
        exact ⟨fun _ => ⟨fun z => absurd (m999.mpr hge) z, fun _ => fin_eq rfl hkI⟩, fun z => absurd (eg.mpr hg) z⟩
      · rw [eq_X12_go c6' c5' hp1 bc hk1 bb (by rw [f6]; exact hl) (by rw [f4, f5, f36, hx2]; exact nI_nm1 (by omega))]
        exact ⟨fun z => absurd (eg.mp z) hg, fun _ => fin_eq rfl hkI⟩
    · unfold wp_X11_go wp_X12_go
      simp [eq_isNobody c2' (show c < 1000 by omega), eq_isPerson c6' (show c < 1000 by omega), eq_isNoDoor c1' (show b < 1000 by omega), eq_isDoor c5' (show b < 1000 by omega), hp, hd, hA, hkI]
  · unfold wp_X11_go wp_X12_go
    simp [eq_isNobody c2' (show c < 1000 by omega), eq_isPerson c6' (show c < 1000 by omega), hp, hA, hkI]
