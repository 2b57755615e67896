theorem eq_isNobody {Post : Int32 → Mem → Prop} {M : Mem} {v : Int32} {n : Nat} (hx : rd M 3 2 = nI n) (hn : n < 1000) : wp_X11_isNobody Post M v = ((vp_in v n → Post 0 M) ∧ (¬ vp_in v n → Post 1 M)) := by
  have e1 : vp_in v n ↔ 0 ≤ v.toInt ∧ v.toInt < n := vp_iff
  apply propext
  refine ⟨fun z => ?_, fun z => sp_isNobody hx hn z.1 z.2⟩
  unfold wp_X11_isNobody at z
  rw [hx, lt0_iff, ltn_iff hn] at z
  refine ⟨fun h => ?_, fun h => ?_⟩
  · have g := e1.mp h
    exact (z.2 (by omega)).1 g.2
  · by_cases y : v.toInt < 0
    · exact z.1 y
    · exact (z.2 y).2 (fun y2 => h (e1.mpr ⟨by omega, y2⟩))
theorem eq_isNoDebt {Post : Int32 → Mem → Prop} {M : Mem} {v : Int32} {n : Nat} (hx : rd M 3 3 = nI n) (hn : n < 1000) : wp_X11_isNoDebt Post M v = ((vp_in v n → Post 0 M) ∧ (¬ vp_in v n → Post 1 M)) := by
  have e1 : vp_in v n ↔ 0 ≤ v.toInt ∧ v.toInt < n := vp_iff
  apply propext
  refine ⟨fun z => ?_, fun z => sp_isNoDebt hx hn z.1 z.2⟩
  unfold wp_X11_isNoDebt at z
  rw [hx, lt0_iff, ltn_iff hn] at z
  refine ⟨fun h => ?_, fun h => ?_⟩
  · have g := e1.mp h
    exact (z.2 (by omega)).1 g.2
  · by_cases y : v.toInt < 0
    · exact z.1 y
    · exact (z.2 y).2 (fun y2 => h (e1.mpr ⟨by omega, y2⟩))
theorem eq_isNoDoor {Post : Int32 → Mem → Prop} {M : Mem} {v : Int32} {n : Nat} (hx : rd M 3 1 = nI n) (hn : n < 1000) : wp_X11_isNoDoor Post M v = ((vp_in v n → Post 0 M) ∧ (¬ vp_in v n → Post 1 M)) := by
  have e1 : vp_in v n ↔ 0 ≤ v.toInt ∧ v.toInt < n := vp_iff
  apply propext
  refine ⟨fun z => ?_, fun z => sp_isNoDoor hx hn z.1 z.2⟩
  unfold wp_X11_isNoDoor at z
  rw [hx, lt0_iff, ltn_iff hn] at z
  refine ⟨fun h => ?_, fun h => ?_⟩
  · have g := e1.mp h
    exact (z.2 (by omega)).1 g.2
  · by_cases y : v.toInt < 0
    · exact z.1 y
    · exact (z.2 y).2 (fun y2 => h (e1.mpr ⟨by omega, y2⟩))
theorem eq_isNoRoom {Post : Int32 → Mem → Prop} {M : Mem} {v : Int32} {n : Nat} (hx : rd M 3 0 = nI n) (hn : n < 1000) : wp_X11_isNoRoom Post M v = ((vp_in v n → Post 0 M) ∧ (¬ vp_in v n → Post 1 M)) := by
  have e1 : vp_in v n ↔ 0 ≤ v.toInt ∧ v.toInt < n := vp_iff
  apply propext
  refine ⟨fun z => ?_, fun z => sp_isNoRoom hx hn z.1 z.2⟩
  unfold wp_X11_isNoRoom at z
  rw [hx, lt0_iff, ltn_iff hn] at z
  refine ⟨fun h => ?_, fun h => ?_⟩
  · have g := e1.mp h
    exact (z.2 (by omega)).1 g.2
  · by_cases y : v.toInt < 0
    · exact z.1 y
    · exact (z.2 y).2 (fun y2 => h (e1.mpr ⟨by omega, y2⟩))
theorem eq_in {Post : Int32 → Mem → Prop} {M : Mem} {a b c : Int64} : wp_X12_in Post M a b c = (if b ≤ a ∧ a ≤ c then Post 1 M else Post 0 M) := by
  apply propext
  by_cases h : b ≤ a ∧ a ≤ c
  · rw [if_pos h]
    refine ⟨fun z => ?_, fun z => sp_X12_in (fun _ => z) (fun y => absurd h y)⟩
    unfold wp_X12_in at z
    rw [cmp_lt, cmp_gt] at z
    have h1 := Int64.le_iff_toInt_le.mp h.1
    have h2 := Int64.le_iff_toInt_le.mp h.2
    exact (z.2 (fun y => by have := Int64.lt_iff_toInt_lt.mp y; omega)).2 (fun y => by have := Int64.lt_iff_toInt_lt.mp y; omega)
  · rw [if_neg h]
    refine ⟨fun z => ?_, fun z => sp_X12_in (fun y => absurd y h) (fun _ => z)⟩
    unfold wp_X12_in at z
    rw [cmp_lt, cmp_gt] at z
    by_cases y : a < b
    · exact z.1 y
    · refine (z.2 y).1 ?_
      have y1 : ¬ a.toInt < b.toInt := fun q => y (Int64.lt_iff_toInt_lt.mpr q)
      refine Int64.lt_iff_toInt_lt.mpr ?_
      by_cases q : a.toInt ≤ c.toInt
      · exact absurd ⟨Int64.le_iff_toInt_le.mpr (by omega), Int64.le_iff_toInt_le.mpr q⟩ h
      · omega
theorem in_iff {v : Int32} {b c : Int64} {lo hi : Int} (hb : b.toInt = lo) (hc : c.toInt = hi) : (b ≤ v.toInt64 ∧ v.toInt64 ≤ c) ↔ (lo ≤ v.toInt ∧ v.toInt ≤ hi) := by
  rw [Int64.le_iff_toInt_le, Int64.le_iff_toInt_le, hb, hc]
  simp
theorem eq_inN {Post : Int32 → Mem → Prop} {M : Mem} {v x : Int32} {n : Nat} (hx : x = nI n) (hn : n < 1000) : wp_X12_in Post M v.toInt64 (0 : Int64) ((x - 1).toInt64) = ((vp_in v n → Post 1 M) ∧ (¬ vp_in v n → Post 0 M)) := by
  subst hx
  rw [eq_in]
  have e : ((0 : Int64) ≤ v.toInt64 ∧ v.toInt64 ≤ (nI n - 1).toInt64) ↔ vp_in v n := by
    rw [in_iff (lo := 0) (hi := (n : Int) - 1) (by decide) (nI_m1 hn), vp_iff]
    omega
  apply propext
  by_cases h : vp_in v n
  · rw [if_pos (e.mpr h)]; exact ⟨fun z => ⟨fun _ => z, fun y => absurd h y⟩, fun z => z.1 h⟩
  · rw [if_neg (fun z => h (e.mp z))]; exact ⟨fun z => ⟨fun y => absurd y h, fun _ => z⟩, fun z => z.2 h⟩
theorem eq_isPerson {Post : Int32 → Mem → Prop} {M : Mem} {v : Int32} {n : Nat} (hx : rd M 29 6 = nI n) (hn : n < 1000) : wp_X12_isPerson Post M v = ((vp_in v n → Post 1 M) ∧ (¬ vp_in v n → Post 0 M)) := by
  unfold wp_X12_isPerson
  rw [eq_inN hx hn]
  exact propext ⟨fun z => ⟨fun h => (z.1 h).2, fun h => (z.2 h).2⟩, fun z => ⟨fun h => ⟨Or.inr rfl, z.1 h⟩, fun h => ⟨Or.inl rfl, z.2 h⟩⟩⟩
theorem eq_isDebt {Post : Int32 → Mem → Prop} {M : Mem} {v : Int32} {n : Nat} (hx : rd M 29 7 = nI n) (hn : n < 1000) : wp_X12_isDebt Post M v = ((vp_in v n → Post 1 M) ∧ (¬ vp_in v n → Post 0 M)) := by
  unfold wp_X12_isDebt
  rw [eq_inN hx hn]
  exact propext ⟨fun z => ⟨fun h => (z.1 h).2, fun h => (z.2 h).2⟩, fun z => ⟨fun h => ⟨Or.inr rfl, z.1 h⟩, fun h => ⟨Or.inl rfl, z.2 h⟩⟩⟩
theorem eq_isDoor {Post : Int32 → Mem → Prop} {M : Mem} {v : Int32} {n : Nat} (hx : rd M 29 5 = nI n) (hn : n < 1000) : wp_X12_isDoor Post M v = ((vp_in v n → Post 1 M) ∧ (¬ vp_in v n → Post 0 M)) := by
  unfold wp_X12_isDoor
  rw [eq_inN hx hn]
  exact propext ⟨fun z => ⟨fun h => (z.1 h).2, fun h => (z.2 h).2⟩, fun z => ⟨fun h => ⟨Or.inr rfl, z.1 h⟩, fun h => ⟨Or.inl rfl, z.2 h⟩⟩⟩
theorem eq_isRoom {Post : Int32 → Mem → Prop} {M : Mem} {v : Int32} {n : Nat} (hx : rd M 29 4 = nI n) (hn : n < 1000) : wp_X12_isRoom Post M v = ((vp_in v n → Post 1 M) ∧ (¬ vp_in v n → Post 0 M)) := by
  unfold wp_X12_isRoom
  rw [eq_inN hx hn]
  exact propext ⟨fun z => ⟨fun h => (z.1 h).2, fun h => (z.2 h).2⟩, fun z => ⟨fun h => ⟨Or.inr rfl, z.1 h⟩, fun h => ⟨Or.inl rfl, z.2 h⟩⟩⟩
theorem eq_lacks {Post : Int32 → Mem → Prop} {M : Mem} : wp_X12_lacks Post M = (if rd M 29 6 = 0 then Post 1 M else Post 0 M) := by
  unfold wp_X12_lacks
  by_cases h : rd M 29 6 = 0
  · rw [if_pos h]; exact propext ⟨fun z => z.2 h, fun z => ⟨fun y => absurd h y, fun _ => z⟩⟩
  · rw [if_neg h]; exact propext ⟨fun z => z.1 h, fun z => ⟨fun _ => z, fun y => absurd y h⟩⟩
theorem in19 {v : Int32} : ((1 : Int64) ≤ v.toInt64 ∧ v.toInt64 ≤ 9) ↔ (¬ v < 1 ∧ v ≤ 9) := by
  rw [in_iff (lo := 1) (hi := 9) (by decide) (by decide), Int32.lt_iff_toInt_lt, Int32.le_iff_toInt_le]
  have h1 : (1 : Int32).toInt = 1 := by decide
  have h2 : (9 : Int32).toInt = 9 := by decide
  rw [h1, h2]
  omega
theorem nar0 : vp_nar .boolean 0 = 0 := by decide
theorem nar1 : vp_nar .boolean 1 = 1 := by decide
