/-! ===== the pure part: numbers and the smallest methods ===== -/
theorem cmp_lt (a b : Int64) : lg_cmp a b < 0 ↔ a < b := by
  unfold lg_cmp
  by_cases h1 : a > b
  · rw [if_pos h1]
    have h2 : b.toInt < a.toInt := Int64.lt_iff_toInt_lt.mp h1
    refine ⟨fun h => absurd h (by decide), fun h => ?_⟩
    have h3 := Int64.lt_iff_toInt_lt.mp h
    omega
  · rw [if_neg h1]
    by_cases h2 : a = b
    · rw [if_pos h2]
      subst h2
      exact ⟨fun h => absurd h (by decide), fun h => absurd (Int64.lt_iff_toInt_lt.mp h) (by omega)⟩
    · rw [if_neg h2]
      refine ⟨fun _ => ?_, fun _ => by decide⟩
      have h3 : ¬ b.toInt < a.toInt := fun z => h1 (Int64.lt_iff_toInt_lt.mpr z)
      have h4 : a.toInt ≠ b.toInt := fun z => h2 (Int64.toInt_inj.mp z)
      exact Int64.lt_iff_toInt_lt.mpr (by omega)
theorem cmp_gt (a b : Int64) : 0 < lg_cmp a b ↔ b < a := by
  unfold lg_cmp
  by_cases h1 : a > b
  · rw [if_pos h1]
    exact ⟨fun _ => h1, fun _ => by decide⟩
  · rw [if_neg h1]
    refine ⟨fun h => ?_, fun h => absurd h h1⟩
    by_cases h2 : a = b
    · rw [if_pos h2] at h; exact absurd h (by decide)
    · rw [if_neg h2] at h; exact absurd h (by decide)
theorem sp_X12_in {Post : Int32 → Mem → Prop} {M : Mem} {a b c : Int64} (h1 : b ≤ a ∧ a ≤ c → Post 1 M) (h0 : ¬ (b ≤ a ∧ a ≤ c) → Post 0 M) : wp_X12_in Post M a b c := by
  unfold wp_X12_in
  rw [cmp_lt, cmp_gt]
  refine ⟨fun h => h0 (fun z => ?_), fun h => ⟨fun g => h0 (fun z => ?_), fun g => h1 ⟨?_, ?_⟩⟩⟩
  · have h1 := Int64.lt_iff_toInt_lt.mp h
    have h2 := Int64.le_iff_toInt_le.mp z.1
    omega
  · have h1 := Int64.lt_iff_toInt_lt.mp g
    have h2 := Int64.le_iff_toInt_le.mp z.2
    omega
  · exact Int64.le_iff_toInt_le.mpr (Int.not_lt.mp (fun z => h (Int64.lt_iff_toInt_lt.mpr z)))
  · exact Int64.le_iff_toInt_le.mpr (Int.not_lt.mp (fun z => g (Int64.lt_iff_toInt_lt.mpr z)))
/-- an int between two numbers, as the model asks it -/
theorem sp_in {Post : Int32 → Mem → Prop} {M : Mem} {v : Int32} {b c : Int64} {lo hi : Int} (hb : b.toInt = lo) (hc : c.toInt = hi) (h1 : lo ≤ v.toInt ∧ v.toInt ≤ hi → Post 1 M) (h0 : ¬ (lo ≤ v.toInt ∧ v.toInt ≤ hi) → Post 0 M) : wp_X12_in Post M v.toInt64 b c := by
  have e : (v.toInt64).toInt = v.toInt := by simp
  refine sp_X12_in (fun h => h1 ?_) (fun h => h0 (fun z => h ?_))
  · have a1 := Int64.le_iff_toInt_le.mp h.1
    have a2 := Int64.le_iff_toInt_le.mp h.2
    rw [e] at a1 a2
    omega
  · refine ⟨Int64.le_iff_toInt_le.mpr ?_, Int64.le_iff_toInt_le.mpr ?_⟩
    · rw [e]; omega
    · rw [e]; omega
theorem nI_m1 {n : Nat} (h : n < 1000) : ((nI n - 1).toInt64).toInt = (n : Int) - 1 := by
  have e : (nI n - nI 1).toInt = (n : Int) - 1 := by
    have := pk_sub_toInt (a := n) (b := 1) (by omega) (by omega)
    exact_mod_cast this
  have e2 : (nI n - 1) = nI n - nI 1 := rfl
  rw [e2]
  simpa using e
theorem vp_iff {v : Int32} {n : Nat} : vp_in v n ↔ 0 ≤ v.toInt ∧ v.toInt < n := vp_in_iff
theorem sp_inN {Post : Int32 → Mem → Prop} {M : Mem} {v : Int32} {x : Int32} {n : Nat} (hx : x = nI n) (hn : n < 1000) (h1 : vp_in v n → Post 1 M) (h0 : ¬ vp_in v n → Post 0 M) : wp_X12_in Post M v.toInt64 (0 : Int64) ((x - 1).toInt64) := by
  subst hx
  refine sp_in (lo := 0) (hi := (n : Int) - 1) (by decide) (nI_m1 hn) (fun h => h1 (vp_iff.mpr ⟨h.1, by omega⟩)) (fun h => h0 (fun z => h ?_))
  have := vp_iff.mp z
  omega
theorem sp_isPerson {Post : Int32 → Mem → Prop} {M : Mem} {v : Int32} {n : Nat} (hx : rd M 29 6 = nI n) (hn : n < 1000) (h1 : vp_in v n → Post 1 M) (h0 : ¬ vp_in v n → Post 0 M) : wp_X12_isPerson Post M v := by
  unfold wp_X12_isPerson
  exact sp_inN hx hn (fun h => ⟨Or.inr rfl, h1 h⟩) (fun h => ⟨Or.inl rfl, h0 h⟩)
theorem sp_isDoor {Post : Int32 → Mem → Prop} {M : Mem} {v : Int32} {n : Nat} (hx : rd M 29 5 = nI n) (hn : n < 1000) (h1 : vp_in v n → Post 1 M) (h0 : ¬ vp_in v n → Post 0 M) : wp_X12_isDoor Post M v := by
  unfold wp_X12_isDoor
  exact sp_inN hx hn (fun h => ⟨Or.inr rfl, h1 h⟩) (fun h => ⟨Or.inl rfl, h0 h⟩)
theorem sp_isDebt {Post : Int32 → Mem → Prop} {M : Mem} {v : Int32} {n : Nat} (hx : rd M 29 7 = nI n) (hn : n < 1000) (h1 : vp_in v n → Post 1 M) (h0 : ¬ vp_in v n → Post 0 M) : wp_X12_isDebt Post M v := by
  unfold wp_X12_isDebt
  exact sp_inN hx hn (fun h => ⟨Or.inr rfl, h1 h⟩) (fun h => ⟨Or.inl rfl, h0 h⟩)
theorem sp_isRoom {Post : Int32 → Mem → Prop} {M : Mem} {v : Int32} {n : Nat} (hx : rd M 29 4 = nI n) (hn : n < 1000) (h1 : vp_in v n → Post 1 M) (h0 : ¬ vp_in v n → Post 0 M) : wp_X12_isRoom Post M v := by
  unfold wp_X12_isRoom
  exact sp_inN hx hn (fun h => ⟨Or.inr rfl, h1 h⟩) (fun h => ⟨Or.inl rfl, h0 h⟩)
theorem lt0_iff {v : Int32} : v < 0 ↔ v.toInt < 0 := by rw [Int32.lt_iff_toInt_lt]; rfl
theorem ltn_iff {v : Int32} {n : Nat} (h : n < 1000) : v < nI n ↔ v.toInt < n := by
  rw [Int32.lt_iff_toInt_lt, nI_toInt (by omega)]
theorem sp_isNobody {Post : Int32 → Mem → Prop} {M : Mem} {v : Int32} {n : Nat} (hx : rd M 3 2 = nI n) (hn : n < 1000) (h0 : vp_in v n → Post 0 M) (h1 : ¬ vp_in v n → Post 1 M) : wp_X11_isNobody Post M v := by
  unfold wp_X11_isNobody
  rw [hx, lt0_iff, ltn_iff hn]
  refine ⟨fun h => h1 (fun z => ?_), fun h => ⟨fun g => h0 (vp_iff.mpr ⟨by omega, g⟩), fun g => h1 (fun z => ?_)⟩⟩
  · have := vp_iff.mp z; omega
  · have := vp_iff.mp z; omega
theorem sp_isNoDoor {Post : Int32 → Mem → Prop} {M : Mem} {v : Int32} {n : Nat} (hx : rd M 3 1 = nI n) (hn : n < 1000) (h0 : vp_in v n → Post 0 M) (h1 : ¬ vp_in v n → Post 1 M) : wp_X11_isNoDoor Post M v := by
  unfold wp_X11_isNoDoor
  rw [hx, lt0_iff, ltn_iff hn]
  refine ⟨fun h => h1 (fun z => ?_), fun h => ⟨fun g => h0 (vp_iff.mpr ⟨by omega, g⟩), fun g => h1 (fun z => ?_)⟩⟩
  · have := vp_iff.mp z; omega
  · have := vp_iff.mp z; omega
theorem sp_isNoDebt {Post : Int32 → Mem → Prop} {M : Mem} {v : Int32} {n : Nat} (hx : rd M 3 3 = nI n) (hn : n < 1000) (h0 : vp_in v n → Post 0 M) (h1 : ¬ vp_in v n → Post 1 M) : wp_X11_isNoDebt Post M v := by
  unfold wp_X11_isNoDebt
  rw [hx, lt0_iff, ltn_iff hn]
  refine ⟨fun h => h1 (fun z => ?_), fun h => ⟨fun g => h0 (vp_iff.mpr ⟨by omega, g⟩), fun g => h1 (fun z => ?_)⟩⟩
  · have := vp_iff.mp z; omega
  · have := vp_iff.mp z; omega
theorem sp_isNoRoom {Post : Int32 → Mem → Prop} {M : Mem} {v : Int32} {n : Nat} (hx : rd M 3 0 = nI n) (hn : n < 1000) (h0 : vp_in v n → Post 0 M) (h1 : ¬ vp_in v n → Post 1 M) : wp_X11_isNoRoom Post M v := by
  unfold wp_X11_isNoRoom
  rw [hx, lt0_iff, ltn_iff hn]
  refine ⟨fun h => h1 (fun z => ?_), fun h => ⟨fun g => h0 (vp_iff.mpr ⟨by omega, g⟩), fun g => h1 (fun z => ?_)⟩⟩
  · have := vp_iff.mp z; omega
  · have := vp_iff.mp z; omega
theorem sp_lacks {Post : Int32 → Mem → Prop} {M : Mem} (h1 : rd M 29 6 = 0 → Post 1 M) (h0 : ¬ rd M 29 6 = 0 → Post 0 M) : wp_X12_lacks Post M := by
  unfold wp_X12_lacks
  refine ⟨fun h => ?_, fun h => ?_⟩ <;> first | exact h1 h | exact h0 h
