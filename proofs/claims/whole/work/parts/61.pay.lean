/-! ===== paying, on trial or not ===== -/
def FS (o : Nat) (M M' : Mem) : Prop := (∀ q, q ≠ o + 1 → q ≠ o + 5 → ∀ j, rd M' q j = rd M q j) ∧ (∀ q j, 4 ≤ j → rd M' q j = rd M q j) ∧ M'.2 = M.2
def FA (o : Nat) (M M' : Mem) : Prop := (∀ q, q ≠ o → q ≠ o + 1 → q ≠ o + 2 → q ≠ o + 5 → ∀ j, rd M' q j = rd M q j) ∧ M'.2 = M.2
def FT (M M' : Mem) : Prop := (∀ q, q ≠ 43 → q ≠ 44 → q ≠ 45 → ∀ j, rd M' q j = rd M q j) ∧ M'.2 = M.2
theorem FS.fa {o : Nat} {M M' : Mem} (f : FS o M M') : FA o M M' := ⟨fun q _ h1 _ h5 j => f.1 q h1 h5 j, f.2.2⟩
theorem FA.rf (o : Nat) (M : Mem) : FA o M M := ⟨fun _ _ _ _ _ _ => rfl, rfl⟩
theorem FT.rf (M : Mem) : FT M M := ⟨fun _ _ _ _ _ => rfl, rfl⟩
theorem FA.tr {o : Nat} {M N K : Mem} (f : FA o M N) (g : FA o N K) : FA o M K := ⟨fun q h0 h1 h2 h5 j => (g.1 q h0 h1 h2 h5 j).trans (f.1 q h0 h1 h2 h5 j), g.2.trans f.2⟩
theorem FT.tr {M N K : Mem} (f : FT M N) (g : FT N K) : FT M K := ⟨fun q h1 h2 h5 j => (g.1 q h1 h2 h5 j).trans (f.1 q h1 h2 h5 j), g.2.trans f.2⟩
theorem FA.st {o : Nat} {M M' : Mem} (f : FA o M M') (ho : 59 ≤ o) : stC M' o = stC M o := by
  funext i
  match i with
  | 0 => exact funext (f.1 4 (by omega) (by omega) (by omega) (by omega))
  | 1 => exact funext (f.1 5 (by omega) (by omega) (by omega) (by omega))
  | 2 => exact funext (f.1 6 (by omega) (by omega) (by omega) (by omega))
  | 3 => exact cut_ext (fun p hp => f.1 (11 + p) (by omega) (by omega) (by omega) (by omega) 0)
  | 4 => exact cut_ext (fun p hp => f.1 (o + 3) (by omega) (by omega) (by omega) (by omega) p)
  | 5 => exact funext (f.1 8 (by omega) (by omega) (by omega) (by omega))
  | 6 => exact funext (f.1 9 (by omega) (by omega) (by omega) (by omega))
  | 7 => exact funext (f.1 10 (by omega) (by omega) (by omega) (by omega))
  | k + 8 => exact cut_ext (fun p hp => f.1 (o + 4) (by omega) (by omega) (by omega) (by omega) p)
theorem FA.co {o a b c d : Nat} {M M' : Mem} (f : FA o M M') (ho : 59 ≤ o) (h : CO M o a b c d) : CO M' o a b c d := by
  unfold CO at h ⊢
  have e := f.1 3 (by omega) (by omega) (by omega) (by omega)
  rw [e, e, e, e, f.st ho]
  exact h
theorem FT.st {M M' : Mem} (f : FT M M') : stM M' = stM M := by
  funext i
  match i with
  | 0 => exact funext (f.1 31 (by omega) (by omega) (by omega))
  | 1 => exact funext (f.1 32 (by omega) (by omega) (by omega))
  | 2 => exact funext (f.1 33 (by omega) (by omega) (by omega))
  | 3 => exact cut_ext (fun p hp => f.1 34 (by omega) (by omega) (by omega) p)
  | 4 => exact cut_ext (fun p hp => f.1 37 (by omega) (by omega) (by omega) p)
  | 5 => exact funext (f.1 38 (by omega) (by omega) (by omega))
  | 6 => exact funext (f.1 39 (by omega) (by omega) (by omega))
  | 7 => exact funext (f.1 40 (by omega) (by omega) (by omega))
  | k + 8 => exact cut_ext (fun p hp => f.1 41 (by omega) (by omega) (by omega) p)
theorem FT.mo {a b c d : Nat} {M M' : Mem} (f : FT M M') (h : MO M a b c d) : MO M' a b c d := by
  unfold MO at h ⊢
  have e := f.1 29 (by omega) (by omega) (by omega)
  rw [e, e, e, e, f.st]
  exact h
theorem FT.fr {M M' : Mem} (f : FT M M') : Fr M M' := ⟨fun q hq j => by unfold core at hq; exact f.1 q (by omega) (by omega) (by omega) j, f.1 1 (by omega) (by omega) (by omega) 1, fun k _ => f.1 29 (by omega) (by omega) (by omega) k⟩
theorem FA.fr {o : Nat} {M M' : Mem} (f : FA o M M') (ho : 75 ≤ o) : Fr M M' := ⟨fun q hq j => by unfold core at hq; exact f.1 q (by omega) (by omega) (by omega) (by omega) j, f.1 1 (by omega) (by omega) (by omega) (by omega) 1, fun k _ => f.1 29 (by omega) (by omega) (by omega) (by omega) k⟩
theorem may_C {M : Mem} {o k x y z : Nat} (hk : k < 4) (hx : x < 4) (hy : y < 4) (e5 : rd M 8 k = nI x) (e6 : rd M 9 k = nI y) (e7 : rd M 10 k = nI z) : mayB (stC M o) (tvC M o) k = true ↔ rd M (o + 5) k = 0 ∧ cosH (stC M o) k ≤ rd M (o + 1) x ∧ ((kd M x = 1 ∨ kd M x = 4) ∨ rd M (o + 2) x = nI z ∧ (kd M x = 3 ∨ rd M (o + 2) y = nI z)) := by
  unfold mayB whoH whmH
  rw [decide_eq_true_iff]
  show (cut 4 (rd M (o + 5)) k = 0 ∧ cosH (stC M o) k ≤ cut 4 (rd M (o + 1)) (rd M 8 k).toNatClampNeg ∧ ((cut 4 (kd M) (rd M 8 k).toNatClampNeg = 1 ∨ cut 4 (kd M) (rd M 8 k).toNatClampNeg = 4) ∨ cut 4 (rd M (o + 2)) (rd M 8 k).toNatClampNeg = rd M 10 k ∧ (cut 4 (kd M) (rd M 8 k).toNatClampNeg = 3 ∨ cut 4 (rd M (o + 2)) (rd M 9 k).toNatClampNeg = rd M 10 k))) ↔ _
  rw [e5, e6, e7, cl4 (p := x) (by omega), cl4 (p := y) (by omega), cut_lt hk, cut_lt hx, cut_lt hx, cut_lt hx, cut_lt hy]
theorem may_T {M : Mem} {k x y z : Nat} (hk : k < 4) (hx : x < 4) (hy : y < 4) (e5 : rd M 38 k = nI x) (e6 : rd M 39 k = nI y) (e7 : rd M 40 k = nI z) : mayB (stM M) (tvT M) k = true ↔ rd M 45 k = 0 ∧ cosH (stM M) k ≤ rd M 43 x ∧ ((rd M 34 x = 1 ∨ rd M 34 x = 4) ∨ rd M 44 x = nI z ∧ (rd M 34 x = 3 ∨ rd M 44 y = nI z)) := by
  unfold mayB whoH whmH
  rw [decide_eq_true_iff]
  show (cut 4 (rd M 45) k = 0 ∧ cosH (stM M) k ≤ cut 4 (rd M 43) (rd M 38 k).toNatClampNeg ∧ ((cut 4 (rd M 34) (rd M 38 k).toNatClampNeg = 1 ∨ cut 4 (rd M 34) (rd M 38 k).toNatClampNeg = 4) ∨ cut 4 (rd M 44) (rd M 38 k).toNatClampNeg = rd M 40 k ∧ (cut 4 (rd M 34) (rd M 38 k).toNatClampNeg = 3 ∨ cut 4 (rd M 44) (rd M 39 k).toNatClampNeg = rd M 40 k))) ↔ _
  rw [e5, e6, e7, cl4 (p := x) (by omega), cl4 (p := y) (by omega), cut_lt hk, cut_lt hx, cut_lt hx, cut_lt hx, cut_lt hy]
theorem k5 {v : Int32} (h : ∃ x, x < 5 ∧ v = nI x) : v = 0 ∨ v = 1 ∨ v = 2 ∨ v = 3 ∨ v = 4 := by
  obtain ⟨x, hx, rfl⟩ := h
  rcases (by omega : x = 0 ∨ x = 1 ∨ x = 2 ∨ x = 3 ∨ x = 4) with rfl | rfl | rfl | rfl | rfl
  · exact Or.inl rfl
  · exact Or.inr (Or.inl rfl)
  · exact Or.inr (Or.inr (Or.inl rfl))
  · exact Or.inr (Or.inr (Or.inr (Or.inl rfl)))
  · exact Or.inr (Or.inr (Or.inr (Or.inr rfl)))
theorem eqc_may {Post : Int32 → Mem → Prop} {M : Mem} {o a b c d k : Nat} (hC : CO M o a b c d) (hk : k < d) : wp_X0_mayPay Post M o (nI k) = if mayB (stC M o) (tvC M o) k = true then Post 1 M else Post 0 M := by
  obtain ⟨x, y, z, hx, hy, -, -, e5, e6, e7⟩ := hC.2.2.2.2.2.2.2.2.1 k hk
  have e5 : rd M 8 k = nI x := e5
  have e6 : rd M 9 k = nI y := e6
  have e7 : rd M 10 k = nI z := e7
  have hB := hC.2.2.2.2.1
  unfold BD at hB
  have hk5 := k5 (hC.2.2.2.2.2.2.1 x (by omega))
  have ek : stC M o 3 x = kd M x := cut_lt (by omega)
  rw [ek] at hk5
  rw [← im_if (may_C (o := o) (by omega) (by omega) (by omega) e5 e6 e7)]
  have n1 := cl4 (p := k) (by omega)
  have n2 := cl4 (p := x) (by omega)
  have n3 := cl4 (p := y) (by omega)
  have v1 := in_n (p := k) (n := 4) (by omega) (by omega)
  have v2 := in_n (p := x) (n := 4) (by omega) (by omega)
  have v3 := in_n (p := y) (n := 4) (by omega) (by omega)
  unfold wp_X0_mayPay
  simp only [n1, v1, e5, n2, v2, true_and, forall_eq, eqc_cost hC hk, e6, e7, n3, v3]
  by_cases h1 : rd M (o + 5) k = 0
  · by_cases h2 : cosH (stC M o) k ≤ rd M (o + 1) x
    · unfold wpv_mayPayFrom wp_X8_mayPayFrom wp_X7_mayPayFrom wp_X3_mayPayFrom kd
      unfold kd at hk5
      by_cases h3 : rd M (o + 2) x = nI z <;> by_cases h4 : rd M (o + 2) y = nI z <;> rcases hk5 with h | h | h | h | h <;> simp [h, h1, h2, h3, h4, zb0, zb1]
    · simp [h1, h2]
  · simp [h1]
theorem eqm_may {Post : Int32 → Mem → Prop} {M : Mem} {a b c d k : Nat} (hC : MO M a b c d) (hk : k < d) : wp_X12_mayThen Post M (nI k) = if mayB (stM M) (tvT M) k = true then Post 1 M else Post 0 M := by
  obtain ⟨x, y, z, hx, hy, -, -, e5, e6, e7⟩ := hC.2.2.2.2.2.2.2.2.1 k hk
  have e5 : rd M 38 k = nI x := e5
  have e6 : rd M 39 k = nI y := e6
  have e7 : rd M 40 k = nI z := e7
  have hB := hC.2.2.2.2.1
  unfold BD at hB
  have hk5 := k5 (hC.2.2.2.2.2.2.1 x (by omega))
  have ek : stM M 3 x = rd M 34 x := cut_lt (by omega)
  rw [ek] at hk5
  rw [← im_if (may_T (by omega) (by omega) (by omega) e5 e6 e7)]
  have n1 := cl4 (p := k) (by omega)
  have n2 := cl4 (p := x) (by omega)
  have n3 := cl4 (p := y) (by omega)
  have v1 := in_n (p := k) (n := 4) (by omega) (by omega)
  have v2 := in_n (p := x) (n := 4) (by omega) (by omega)
  have v3 := in_n (p := y) (n := 4) (by omega) (by omega)
  unfold wp_X12_mayThen wp_X12_mayThen_b60 wp_X12_mayThen_b64 wp_X12_mayThen_b65
  have hr : ∀ P, wp_X12_isRich P M (nI x) = ((rd M 34 x = 1 ∨ rd M 34 x = 4 → P 1 M) ∧ (¬ (rd M 34 x = 1 ∨ rd M 34 x = 4) → P 0 M)) := fun P => eq_isRich (by omega)
  simp only [n1, v1, e5, n2, v2, true_and, forall_eq, hr, e6, e7, n3, v3, eqm_cost hC hk]
  have hle : ∀ u v : Int32, u < v ↔ ¬ v ≤ u := fun u v => by rw [Int32.lt_iff_toInt_lt, Int32.le_iff_toInt_le]; omega
  simp only [hle, Classical.not_not]
  by_cases h1 : rd M 45 k = 0
  · by_cases h2 : cosH (stM M) k ≤ rd M 43 x
    · by_cases h3 : rd M 44 x = nI z <;> by_cases h4 : rd M 44 y = nI z <;> rcases hk5 with h | h | h | h | h <;> simp [h, h1, h2, h3, h4]
    · by_cases h3 : rd M 44 x = nI z <;> by_cases h4 : rd M 44 y = nI z <;> rcases hk5 with h | h | h | h | h <;> simp [h, h1, h2, h3, h4]
  · by_cases h3 : rd M 44 x = nI z <;> by_cases h4 : rd M 44 y = nI z <;> rcases hk5 with h | h | h | h | h <;> simp [h, h1, h3, h4]
theorem tv_ext {T T' : TV} (h1 : T.1 = T'.1) (h2 : T.2.1 = T'.2.1) (h3 : T.2.2 = T'.2.2) : T = T' := Prod.ext h1 (Prod.ext h2 h3)
theorem mn99 (s : Int32) : (if s < 99 then s else 99) = if s ≤ 99 then s else 99 := by
  by_cases h : s < 99
  · rw [if_pos h, if_pos (Int32.le_iff_toInt_le.mpr (by have := Int32.lt_iff_toInt_lt.mp h; omega))]
  · rw [if_neg h]
    by_cases h2 : s ≤ 99
    · rw [if_pos h2]
      have h3 := Int32.le_iff_toInt_le.mp h2
      have h4 : ¬ s.toInt < (99 : Int32).toInt := fun z => h (Int32.lt_iff_toInt_lt.mpr z)
      exact Int32.toInt_inj.mp (by omega)
    · rw [if_neg h2]
theorem st2_eq {H : Nat → Nat → Int32} {f : Nat → Int32} {k x y : Nat} (e5 : H 5 k = nI x) (e6 : H 6 k = nI y) (hx : x < 4) (hy : y < 4) (hxy : x ≠ y) (j : Nat) : st2 H (cut 4 f) k j = if j < 4 then (if j = y then (if f y + H 8 k ≤ 99 then f y + H 8 k else 99) else if j = x then f x - cosH H k else f j) else 0 := by
  have w1 : whoH H k = x := by unfold whoH; rw [e5]; exact cl4 (by omega)
  have w2 : whmH H k = y := by unfold whmH; rw [e6]; exact cl4 (by omega)
  unfold st2 st1
  rw [w1, w2, cut_lt hx, cut_lt hy, if_neg (show ¬ y = x from fun z => hxy z.symm)]
  by_cases hj : j < 4
  · rw [if_pos hj, cut_lt hj]
  · rw [if_neg hj, if_neg (by omega), if_neg (by omega)]; exact if_neg hj
theorem sp_settle {Post : Mem → Prop} {M : Mem} {o a b c d k : Nat} (hC : CO M o a b c d) (hk : k < d) (h : ∀ M', FS o M M' → tvC M' o = stl (stC M o) (tvC M o) k → Post M') : wp_X0_settle Post M o (nI k) := by
  obtain ⟨x, y, z, hx, hy, hxy, -, e5, e6, e7⟩ := hC.2.2.2.2.2.2.2.2.1 k hk
  have e5' : rd M 8 k = nI x := e5
  have e6' : rd M 9 k = nI y := e6
  have hB := hC.2.2.2.2.1
  unfold BD at hB
  have n1 := cl4 (p := k) (by omega)
  have n2 := cl4 (p := x) (by omega)
  have n3 := cl4 (p := y) (by omega)
  have v1 := in_n (p := k) (n := 4) (by omega) (by omega)
  have v2 := in_n (p := x) (n := 4) (by omega) (by omega)
  have v3 := in_n (p := y) (n := 4) (by omega) (by omega)
  unfold wp_X0_settle
  simp only [n1, v1, e5', n2, v2, true_and, forall_eq, eqc_cost hC hk, e6', n3, v3, nar1, mn99]
  refine h _ ⟨fun q h1 h5 j => by rw [wr_n h5, wr_n h1, wr_n h1], fun q j hj => by rw [wr_k _ (by omega), wr_k _ (by omega), wr_k _ (by omega)], rfl⟩ ?_
  refine tv_ext (funext fun j => ?_) (cut_ext fun j hj => ?_) (funext fun j => ?_)
  · show cut 4 (rd _ (o + 1)) j = st2 (stC M o) (cut 4 (rd M (o + 1))) k j
    rw [st2_eq e5 e6 (by omega) (by omega) hxy j]
    unfold cut
    by_cases hj : j < 4
    · rw [if_pos hj, if_pos hj, wr_n (by omega), wr_q, wr_q, wr_q, if_neg (show ¬ y = x from fun z => hxy z.symm), wr_n (by omega)]
      have e8 : stC M o 8 k = rd M (o + 4) k := cut_lt (by omega)
      rw [e8]
    · rw [if_neg hj, if_neg hj]
  · rw [wr_n (by omega), wr_n (by omega), wr_n (by omega)]
  · show cut 4 _ j = if j = k then 1 else cut 4 (rd M (o + 5)) j
    unfold cut
    by_cases hj : j < 4
    · rw [if_pos hj, wr_q, wr_n (by omega), wr_n (by omega), if_pos hj]
    · rw [if_neg hj, if_neg hj, if_neg (by omega)]
theorem sp_payThen {Post : Mem → Prop} {M : Mem} {a b c d k : Nat} (hC : MO M a b c d) (hk : k < d) (h : ∀ M', FT M M' → tvT M' = stl (stM M) (tvT M) k → Post M') : wp_X12_payThen Post M (nI k) := by
  obtain ⟨x, y, z, hx, hy, hxy, -, e5, e6, e7⟩ := hC.2.2.2.2.2.2.2.2.1 k hk
  have e5' : rd M 38 k = nI x := e5
  have e6' : rd M 39 k = nI y := e6
  have hB := hC.2.2.2.2.1
  unfold BD at hB
  have n1 := cl4 (p := k) (by omega)
  have n2 := cl4 (p := x) (by omega)
  have n3 := cl4 (p := y) (by omega)
  have v1 := in_n (p := k) (n := 4) (by omega) (by omega)
  have v2 := in_n (p := x) (n := 4) (by omega) (by omega)
  have v3 := in_n (p := y) (n := 4) (by omega) (by omega)
  have e8 : stM M 8 k = rd M 41 k := cut_lt (by omega)
  have fin : ∀ w, w = (if rd M 43 y + stM M 8 k ≤ 99 then rd M 43 y + stM M 8 k else 99) → Post (wr (wr (wr M 43 x (rd M 43 x - cosH (stM M) k)) 43 y w) 45 k 1) := by
    intro w hw
    refine h _ ⟨fun q h1 h2 h5 j => by rw [wr_n h5, wr_n h1, wr_n h1], rfl⟩ ?_
    refine tv_ext (funext fun j => ?_) (cut_ext fun j hj => ?_) (funext fun j => ?_)
    · show cut 4 (rd _ 43) j = st2 (stM M) (cut 4 (rd M 43)) k j
      rw [st2_eq e5 e6 (by omega) (by omega) hxy j]
      unfold cut
      by_cases hj : j < 4
      · rw [if_pos hj, if_pos hj, wr_n (by omega), wr_q, wr_q, hw]
      · rw [if_neg hj, if_neg hj]
    · rw [wr_n (by omega), wr_n (by omega), wr_n (by omega)]
    · show cut 4 _ j = if j = k then 1 else cut 4 (rd M 45) j
      unfold cut
      by_cases hj : j < 4
      · rw [if_pos hj, wr_q, wr_n (by omega), wr_n (by omega), if_pos hj]
      · rw [if_neg hj, if_neg hj, if_neg (by omega)]
  have r1 : ∀ v : Int32, rd (wr M 43 x v) 38 k = nI x := fun v => by rw [wr_n (by omega)]; exact e5'
  have r2 : ∀ v : Int32, rd (wr M 43 x v) 39 k = nI y := fun v => by rw [wr_n (by omega)]; exact e6'
  have r3 : ∀ v : Int32, rd (wr M 43 x v) 43 y = rd M 43 y := fun v => by rw [wr_k _ (fun z => hxy z.symm)]
  have r4 : ∀ v : Int32, rd (wr M 43 x v) 41 k = stM M 8 k := fun v => by rw [wr_n (by omega), e8]
  unfold wp_X12_payThen wp_X12_payThen_b60
  simp only [n1, v1, e5', n2, v2, true_and, forall_eq, eqm_cost hC hk, r2, n3, v3, r3, r4]
  refine ⟨fun q => fin _ (by rw [if_pos q]), fun q => fin _ (by rw [if_neg q])⟩
theorem sp_begin {Post : Mem → Prop} {M : Mem} (h : ∀ M', FT M M' → tvT M' = tvM M → Post M') : wp_X12_begin Post M := by
  refine sp_copy (by omega) (by omega) (fun N1 u1 w1 x1 => ?_)
  refine sp_copy (by omega) (by omega) (fun N2 u2 w2 x2 => ?_)
  refine sp_copy (by omega) (by omega) (fun N3 u3 w3 x3 => ?_)
  refine h N3 ⟨fun q h1 h2 h3 j => by rw [u3 q h3, u2 q h2, u1 q h1], x3.trans (x2.trans x1)⟩ ?_
  refine tv_ext (cut_ext fun j hj => ?_) (cut_ext fun j hj => ?_) (cut_ext fun j hj => ?_)
  · rw [u3 43 (by omega), u2 43 (by omega), w1 j, if_pos hj]
  · rw [u3 44 (by omega), w2 j, if_pos hj, u1 36 (by omega)]
  · rw [w3 j, if_pos hj, u2 42 (by omega), u1 42 (by omega)]
theorem TK.tv {M M' : Mem} {o o1 : Nat} (t : TK M M' o o1) : tvC M' o = tvC M o1 := by
  obtain ⟨t0, t1, t2, t3, t4, t5, t6, t7, t8, t9, -⟩ := t
  refine tv_ext (cut_ext fun j hj => ?_) (cut_ext fun j hj => ?_) (cut_ext fun j hj => ?_)
  · rw [t1 j, if_pos hj]
  · rw [t2 j, if_pos hj]
  · rw [t5 j, if_pos hj]
theorem TK.st {M M' : Mem} {o o1 : Nat} (t : TK M M' o o1) (ho : 59 ≤ o) : stC M' o = stC M o1 := by
  obtain ⟨t0, t1, t2, t3, t4, t5, t6, t7, t8, t9, -⟩ := t
  funext i
  match i with
  | 0 => exact funext (t0 4 (by omega))
  | 1 => exact funext (t0 5 (by omega))
  | 2 => exact funext (t0 6 (by omega))
  | 3 => exact cut_ext (fun p hp => t0 (11 + p) (by omega) 0)
  | 4 => exact cut_ext (fun p hp => by rw [t3 p, if_pos hp])
  | 5 => exact funext (t0 8 (by omega))
  | 6 => exact funext (t0 9 (by omega))
  | 7 => exact funext (t0 10 (by omega))
  | k + 8 => exact cut_ext (fun p hp => by rw [t4 p, if_pos hp])
theorem TK.co {M M' : Mem} {o o1 a b c d : Nat} (t : TK M M' o o1) (ho : 59 ≤ o) (h : CO M o1 a b c d) : CO M' o a b c d := by
  unfold CO at h ⊢
  have e := t.1 3 (by omega)
  rw [e, e, e, e, t.st ho]
  exact h
theorem TK.fr {M M' : Mem} {o o1 : Nat} (t : TK M M' o o1) (ho : 75 ≤ o) : Fr M M' := ⟨fun q hq j => by unfold core at hq; exact t.1 q (by omega) j, t.1 1 (by omega) 1, fun k _ => t.1 29 (by omega) k⟩
