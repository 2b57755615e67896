/-! ===== who passes, what a debt costs ===== -/
def kd (M : Mem) (p : Nat) : Int32 := rd M (11 + p) 0
def pasP (lck knd hld : Nat → Int32) (p d : Nat) : Prop := ¬ knd p = 1 ∧ ¬ knd p = 4 ∧ (knd p = 2 ∨ lck d = -1 ∨ hld (lck d).toNatClampNeg = nI p)
def lkOK (x : Int32) : Prop := x = -1 ∨ x = 0 ∨ x = 1
theorem zb0 : zb 0 = True := eq_true (Or.inl rfl)
theorem zb1 : zb 1 = True := eq_true (Or.inr rfl)
theorem cl4 {p : Nat} (h : p < 1000) : (nI p).toNatClampNeg = p := nI_clamp (by omega)
theorem in_n {p n : Nat} (h : p < n) (hn : n < 1000) : vp_in (nI p) n = True := eq_true (vp_in_nI h (by omega))
theorem c0 : (0 : Int32).toNatClampNeg = 0 := by decide
theorem c1 : (1 : Int32).toNatClampNeg = 1 := by decide
theorem in0_2 : vp_in 0 2 = True := eq_true (by unfold vp_in; decide)
theorem in1_2 : vp_in 1 2 = True := eq_true (by unfold vp_in; decide)
theorem eq_mayPass {Post : Int32 → Mem → Prop} {M : Mem} {o p d : Nat} (hp : p < 4) (hd : d < 6) (hl : lkOK (rd M 6 d)) : wp_X0_mayPass Post M o (nI p) (nI d) = ((pasP (rd M 6) (kd M) (rd M (o + 3)) p d → Post 1 M) ∧ (¬ pasP (rd M 6) (kd M) (rd M (o + 3)) p d → Post 0 M)) := by
  have e1 := cl4 (p := p) (by omega)
  have e2 := cl4 (p := d) (by omega)
  have i1 := in_n (p := p) (n := 4) hp (by omega)
  have i2 := in_n (p := d) (n := 6) hd (by omega)
  unfold wp_X0_mayPass wp_X0_mayPass_b23 wp_X0_mayPass_b24 wp_X0_mayPass_b45 wp_X0_mayPass_b46 wpv_passes wp_X8_passes wp_X1_passes wp_X7_passes pasP kd
  simp only [e1, e2, i1, i2, true_and, forall_eq]
  by_cases k1 : rd M (11 + p) 0 = 1
  · rcases hl with h | h | h <;> by_cases g0 : rd M (o + 3) 0 = nI p <;> by_cases g1 : rd M (o + 3) 1 = nI p <;> simp [k1, h, g0, g1, zb0, zb1, c0, c1, in0_2, in1_2]
  by_cases k4 : rd M (11 + p) 0 = 4
  · rcases hl with h | h | h <;> by_cases g0 : rd M (o + 3) 0 = nI p <;> by_cases g1 : rd M (o + 3) 1 = nI p <;> simp [k4, h, g0, g1, zb0, zb1, c0, c1, in0_2, in1_2]
  by_cases k2 : rd M (11 + p) 0 = 2
  · rcases hl with h | h | h <;> by_cases g0 : rd M (o + 3) 0 = nI p <;> by_cases g1 : rd M (o + 3) 1 = nI p <;> simp [k2, h, g0, g1, zb0, zb1, c0, c1, in0_2, in1_2]
  rcases hl with h | h | h
  · simp [k1, k2, k4, h, zb0, zb1, c0, c1, in0_2, in1_2]
  · by_cases hh : rd M (o + 3) 0 = nI p <;> simp [k1, k2, k4, h, hh, zb0, zb1, c0, c1, in0_2, in1_2]
  · by_cases hh : rd M (o + 3) 1 = nI p <;> simp [k1, k2, k4, h, hh, zb0, zb1, c0, c1, in0_2, in1_2]
def atP (one oth : Nat → Int32) (d : Nat) (r : Int32) : Prop := one d = r ∨ oth d = r
def byd (one oth : Nat → Int32) (d : Nat) (r : Int32) : Int32 := if one d = r then oth d else one d
theorem eq_doorEndsAt {Post : Int32 → Mem → Prop} {M : Mem} {d : Nat} {r : Int32} (hd : d < 6) : wp_X4_doorEndsAt Post M (nI d) r = ((atP (rd M 4) (rd M 5) d r → Post 1 M) ∧ (¬ atP (rd M 4) (rd M 5) d r → Post 0 M)) := by
  have e2 := cl4 (p := d) (by omega)
  have i2 := in_n (p := d) (n := 6) hd (by omega)
  unfold wp_X4_doorEndsAt atP
  simp only [e2, i2, true_and]
  by_cases h1 : rd M 4 d = r
  · simp [h1]
  · by_cases h2 : rd M 5 d = r <;> simp [h1, h2]
theorem eq_roomBeyond {Post : Int32 → Mem → Prop} {M : Mem} {d : Nat} {r : Int32} (hd : d < 6) : wp_X4_roomBeyond Post M (nI d) r = Post (byd (rd M 4) (rd M 5) d r) M := by
  have e2 := cl4 (p := d) (by omega)
  have i2 := in_n (p := d) (n := 6) hd (by omega)
  unfold wp_X4_roomBeyond byd
  simp only [e2, i2, true_and]
  by_cases h1 : rd M 4 d = r
  · simp [h1]
  · simp [h1]
def goP (M : Mem) (o p d : Nat) : Prop := atP (rd M 4) (rd M 5) d (rd M (o + 2) p) ∧ pasP (rd M 6) (kd M) (rd M (o + 3)) p d
theorem eq_mayGo {Post : Int32 → Mem → Prop} {M : Mem} {o p d : Nat} (hp : p < 4) (hd : d < 6) (hl : lkOK (rd M 6 d)) : wp_X0_mayGo Post M o (nI p) (nI d) = ((goP M o p d → Post 1 M) ∧ (¬ goP M o p d → Post 0 M)) := by
  have e1 := cl4 (p := p) (by omega)
  have i1 := in_n (p := p) (n := 4) hp (by omega)
  unfold wp_X0_mayGo goP
  rw [eq_doorEndsAt hd]
  simp only [e1, i1, true_and]
  rw [eq_mayPass hp hd hl]
  by_cases h1 : atP (rd M 4) (rd M 5) d (rd M (o + 2) p)
  · by_cases h2 : pasP (rd M 6) (kd M) (rd M (o + 3)) p d <;> simp [h1, h2]
  · simp [h1]
theorem eq_goThrough {Post : Mem → Prop} {M : Mem} {o p d : Nat} (hp : p < 4) (hd : d < 6) : wp_X0_goThrough Post M o (nI p) (nI d) = Post (wr (wr M (o + 2) p (byd (rd M 4) (rd M 5) d (rd M (o + 2) p))) o 9 (rd M o 9 + 1)) := by
  have e1 := cl4 (p := p) (by omega)
  have i1 := in_n (p := p) (n := 4) hp (by omega)
  unfold wp_X0_goThrough
  rw [eq_roomBeyond hd]
  simp only [e1, i1, true_and, forall_eq]
  rw [wr_n (by omega)]
theorem eq_isRich {Post : Int32 → Mem → Prop} {M : Mem} {p : Nat} (hp : p < 4) : wp_X12_isRich Post M (nI p) = ((rd M 34 p = 1 ∨ rd M 34 p = 4 → Post 1 M) ∧ (¬ (rd M 34 p = 1 ∨ rd M 34 p = 4) → Post 0 M)) := by
  have e1 := cl4 (p := p) (by omega)
  have i1 := in_n (p := p) (n := 4) hp (by omega)
  unfold wp_X12_isRich
  simp only [e1, i1, true_and]
  by_cases h1 : rd M 34 p = 1
  · simp [h1]
  · by_cases h2 : rd M 34 p = 4 <;> simp [h1, h2]
theorem eq_through {Post : Int32 → Mem → Prop} {M : Mem} {p d : Nat} {r : Int32} (hp : p < 4) (hd : d < 6) (hl : lkOK (rd M 33 d)) : wp_X12_through Post M (nI p) (nI d) r = ((atP (rd M 31) (rd M 32) d r ∧ pasP (rd M 33) (rd M 34) (rd M 37) p d → Post (byd (rd M 31) (rd M 32) d r) M) ∧ (¬ (atP (rd M 31) (rd M 32) d r ∧ pasP (rd M 33) (rd M 34) (rd M 37) p d) → Post (-1) M)) := by
  have e1 := cl4 (p := p) (by omega)
  have e2 := cl4 (p := d) (by omega)
  have i1 := in_n (p := p) (n := 4) hp (by omega)
  have i2 := in_n (p := d) (n := 6) hd (by omega)
  unfold wp_X12_through
  rw [eq_isRich hp]
  unfold wp_X12_through_b47 wp_X12_through_b43 wp_X12_through_b48 wp_X12_through_b89 pasP atP byd
  simp only [e1, e2, i1, i2, true_and]
  have main : ∀ (s : Int32), s = 0 ∨ s = 1 → ∀ (may : Prop), (s = 1 ↔ may) → ((¬ rd M 31 d = r → (¬ rd M 32 d = r → (s = 0 → Post (-1) M) ∧ (¬ s = 0 → Post (-1) M)) ∧ (rd M 32 d = r → (s = 0 → Post (-1) M) ∧ (¬ s = 0 → Post (rd M 31 d) M))) ∧ (rd M 31 d = r → (s = 0 → Post (-1) M) ∧ (¬ s = 0 → Post (rd M 32 d) M))) = (((rd M 31 d = r ∨ rd M 32 d = r) ∧ may → Post (if rd M 31 d = r then rd M 32 d else rd M 31 d) M) ∧ (¬ ((rd M 31 d = r ∨ rd M 32 d = r) ∧ may) → Post (-1) M)) := by
    intro s hs may hm
    rcases hs with rfl | rfl
    · have : ¬ may := fun z => absurd (hm.mpr z) (by decide)
      by_cases h1 : rd M 31 d = r
      · simp [h1, this]
      · by_cases h2 : rd M 32 d = r <;> simp [h1, h2, this]
    · have : may := hm.mp rfl
      by_cases h1 : rd M 31 d = r
      · simp [h1, this]
      · by_cases h2 : rd M 32 d = r <;> simp [h1, h2, this]
  by_cases k1 : rd M 34 p = 1
  · rw [← main 0 (Or.inl rfl) _ (by simp [k1])]
    simp [k1]
  by_cases k4 : rd M 34 p = 4
  · rw [← main 0 (Or.inl rfl) _ (by simp [k4])]
    simp [k4]
  by_cases k2 : rd M 34 p = 2
  · rw [← main 1 (Or.inr rfl) _ (by simp [k2])]
    by_cases hl1 : rd M 33 d = -1 <;> simp [k2, hl1]
  rcases hl with h | h | h
  · rw [← main 1 (Or.inr rfl) _ (by simp [k1, k4, h])]
    simp [k1, k4, h]
  · by_cases hh : rd M 37 0 = nI p
    · rw [← main 1 (Or.inr rfl) _ (by simp [k1, k4, h, c0, hh])]
      simp [k1, k2, k4, h, c0, in0_2, hh]
    · rw [← main 0 (Or.inl rfl) _ (by simp [k1, k2, k4, h, c0, hh])]
      simp [k1, k2, k4, h, c0, in0_2, hh]
  · by_cases hh : rd M 37 1 = nI p
    · rw [← main 1 (Or.inr rfl) _ (by simp [k1, k4, h, c1, hh])]
      simp [k1, k2, k4, h, c1, in1_2, hh]
    · rw [← main 0 (Or.inl rfl) _ (by simp [k1, k2, k4, h, c1, hh])]
      simp [k1, k2, k4, h, c1, in1_2, hh]
def cst (knd dbt sum : Nat → Int32) (k : Nat) : Int32 := if knd (dbt k).toNatClampNeg = 1 then sum k + 1 else sum k
theorem eq_costOf {Post : Int32 → Mem → Prop} {M : Mem} {o k : Nat} (hk : k < 4) (hb : vp_in (rd M 8 k) 4) : wp_X0_costOf Post M o (nI k) = Post (cst (kd M) (rd M 8) (rd M (o + 4)) k) M := by
  have e1 := cl4 (p := k) (by omega)
  have i1 := in_n (p := k) (n := 4) hk (by omega)
  unfold wp_X0_costOf wpv_costOfSum wp_X8_costOfSum wp_X7_costOfSum wp_X2_costOfSum cst kd
  simp only [e1, i1, hb, true_and]
  by_cases h1 : rd M (11 + (rd M 8 k).toNatClampNeg) 0 = 1
  · simp [h1]
  · simp [h1]
theorem eq_costs {Post : Int32 → Mem → Prop} {M : Mem} {k : Nat} (hk : k < 4) (hb : vp_in (rd M 38 k) 4) : wp_X12_costs Post M (nI k) = Post (cst (rd M 34) (rd M 38) (rd M 41) k) M := by
  have e1 := cl4 (p := k) (by omega)
  have i1 := in_n (p := k) (n := 4) hk (by omega)
  have z : rd M 41 k + 0 = rd M 41 k := by simp
  unfold wp_X12_costs cst
  simp only [e1, i1, hb, true_and, z]
  by_cases h1 : rd M 34 (rd M 38 k).toNatClampNeg = 1
  · simp [h1]
  · simp [h1]
