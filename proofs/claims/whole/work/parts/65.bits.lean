/-! ===== as; bits of keys, doors, debts; standing ===== -/
theorem ob_as {n : Nat} {M : Mem} (hI : Inv n M) (v1 v2 : Int32) : OB (fun P M => wp_X11_as P M v1 v2) (fun P M => wp_X12_as P M v1 v2) M := by
  obtain ⟨a, b, c, d, hC, hM, hT⟩ := hI.both
  have hB := hC.2.2.2.2.1
  unfold BD at hB
  by_cases hd : vp_in v1 c
  · obtain ⟨p, hp, rfl⟩ := vp_ex hd (by omega)
    have n1 := cl4 (p := p) (by omega)
    have v4 : vp_in (nI p) 4 = True := in_n (by omega) (by omega)
    have vd : vp_in (nI p) c = True := in_n hp (by omega)
    have hk5 := k5 (hM.2.2.2.2.2.2.1 p (by omega))
    have i0 : v2 < 0 ↔ v2.toInt < 0 := lt0_iff
    have i4 : v2 ≤ 4 ↔ v2.toInt ≤ 4 := le9 (k := 4) (by omega)
    have ii := in_iff (v := v2) (b := 0) (c := 4) (lo := 0) (hi := 4) (by decide) (by decide)
    by_cases h5 : vp_in v2 5
    · have g := vp_iff.mp h5
      have j0 : ¬ v2 < 0 := by rw [i0]; omega
      have j4 : v2 ≤ 4 := by rw [i4]; omega
      have jj := ii.mpr (by omega)
      obtain ⟨m, hm, rfl⟩ := vp_ex h5 (by omega)
      refine OB.one (if m = 0 ∨ nI m = stM M 3 p ∨ m = 1 ∧ stM M 3 p = 4 then nI p else -1) (fun M1 P f h => ?_) (fun M1 P f h => ?_)
      · have hC1 := (f.both hI hC hM).1
        have hk : rd M1 (11 + p) 0 = stM M 3 p := by rw [← f.cs hI]; exact (cut_lt (f := kd M1) (show p < 4 by omega)).symm
        unfold wp_X11_as
        rw [eq_isNobody hC1.2.2.1 (by omega)]
        refine ⟨fun _ => ⟨fun _ => ⟨fun z => absurd z j0, fun _ => ⟨fun _ => ?_, fun z => absurd j4 z⟩⟩, fun z => absurd rfl z⟩, fun z => absurd hd z⟩
        unfold wp_X4_isOfKind ins_X8 ins_X1 ins_X3 ins_X2
        rw [n1, hk, v4]
        rcases (by omega : m = 0 ∨ m = 1 ∨ m = 2 ∨ m = 3 ∨ m = 4) with rfl | rfl | rfl | rfl | rfl <;> rcases hk5 with e | e | e | e | e <;> rw [e] at h ⊢ <;> simp [nI] at h ⊢ <;> simp [h, zb0, zb1]
      · have hM1 := (f.both hI hC hM).2
        have hk : rd M1 34 p = stM M 3 p := by rw [← f.st]; exact (cut_lt (show p < 4 by omega)).symm
        unfold wp_X12_as
        rw [eq_isPerson hM1.2.2.1 (by omega)]
        refine ⟨fun _ => ⟨fun _ => ?_, fun z => absurd z (by decide)⟩, fun z => absurd hd z⟩
        rw [eq_in, if_pos jj]
        refine ⟨fun _ => ?_, fun z => absurd z (by decide)⟩
        unfold wp_X12_as_b55 wp_X12_as_b59 wp_X12_as_b60
        rw [n1, hk, v4]
        rcases (by omega : m = 0 ∨ m = 1 ∨ m = 2 ∨ m = 3 ∨ m = 4) with rfl | rfl | rfl | rfl | rfl <;> rcases hk5 with e | e | e | e | e <;> rw [e] at h ⊢ <;> simp [nI] at h ⊢ <;> simp [h]
    · have g : ¬ (0 ≤ v2.toInt ∧ v2.toInt < 5) := fun z => h5 (vp_iff.mpr z)
      have jj : ¬ ((0 : Int64) ≤ v2.toInt64 ∧ v2.toInt64 ≤ 4) := fun z => by have := ii.mp z; omega
      refine OB.one (-102) (fun M1 P f h => ?_) (fun M1 P f h => ?_)
      · have hC1 := (f.both hI hC hM).1
        unfold wp_X11_as
        rw [eq_isNobody hC1.2.2.1 (by omega)]
        refine ⟨fun _ => ⟨fun _ => ⟨fun _ => h, fun z => ⟨fun z2 => ?_, fun _ => h⟩⟩, fun z => absurd rfl z⟩, fun z => absurd hd z⟩
        rw [i0] at z
        rw [i4] at z2
        omega
      · have hM1 := (f.both hI hC hM).2
        unfold wp_X12_as
        rw [eq_isPerson hM1.2.2.1 (by omega)]
        refine ⟨fun _ => ⟨fun _ => ?_, fun z => absurd z (by decide)⟩, fun z => absurd hd z⟩
        rw [eq_in, if_neg jj]
        exact ⟨fun z => absurd rfl z, fun _ => h⟩
  · refine OB.one (-101) (fun M1 P f h => ?_) (fun M1 P f h => ?_)
    · have hC1 := (f.both hI hC hM).1
      unfold wp_X11_as
      rw [eq_isNobody hC1.2.2.1 (by omega)]
      exact ⟨fun z => absurd z hd, fun _ => ⟨fun z => absurd z (by decide), fun _ => h⟩⟩
    · have hM1 := (f.both hI hC hM).2
      unfold wp_X12_as
      rw [eq_isPerson hM1.2.2.1 (by omega)]
      exact ⟨fun z => absurd z hd, fun _ => ⟨fun z => absurd rfl z, fun _ => h⟩⟩
theorem and_t {p : Prop} [Decidable p] {b : Bool} (h : p) (m : b = true) : (decide p && b) = true := by rw [Bool.and_eq_true, decide_eq_true_iff]; exact ⟨h, m⟩
theorem and_f1 {p : Prop} [Decidable p] {b : Bool} (h : ¬ p) : ¬ (decide p && b) = true := by rw [Bool.and_eq_true, decide_eq_true_iff]; exact fun z => h z.1
theorem and_f2 {p : Prop} [Decidable p] {b : Bool} (h : ¬ b = true) : ¬ (decide p && b) = true := by rw [Bool.and_eq_true]; exact fun z => h z.2
def orU (f : Nat → Bool) : Nat → Int32
  | 0 => 0
  | n + 1 => if f n = true then orU f n ||| ((1 : Int32) <<< (nI n &&& 31)) else orU f n
theorem sp_keyBits {Post : Int32 → Mem → Prop} {M : Mem} {o p : Nat} (h : Post (orU (fun k => decide (stC M o 4 k = nI p)) 2) M) : wp_X0_keyBits Post M o (nI p) := by
  intro P4 h4
  refine for_acc (P := P4) (n := 2) (orU (fun k => decide (stC M o 4 k = nI p))) (h4 _ _ _ ⟨fun _ => h, fun z => absurd (Int32.le_refl _) z⟩) (fun i hi ih => h4 _ _ _ ⟨fun z => absurd z (le_n (n := 2) (by omega) hi), fun _ => ?_⟩)
  have n1 := cl4 (p := i) (by omega)
  have e : stC M o 4 i = rd M (o + 3) i := cut_lt hi
  rw [orU, e] at ih
  rw [n1]
  refine ⟨vp_in_nI (by omega) (by omega), fun z x3 hx3 => ?_, fun z x2 hx2 x3 hx3 => ?_⟩
  · rw [hx3, nI_1]
    rw [if_neg (by rw [decide_eq_true_iff]; exact z)] at ih
    exact ih
  · rw [hx2, hx3, nI_1]
    rw [if_pos (by rw [decide_eq_true_iff]; exact z)] at ih
    exact ih
theorem or2 (f : Nat → Bool) : orU f 2 = if f 1 = true then (if f 0 = true then 3 else 2) else (if f 0 = true then 1 else 0) := by
  have e : orU f 2 = if f 1 = true then (if f 0 = true then 0 ||| ((1 : Int32) <<< (nI 0 &&& 31)) else 0) ||| ((1 : Int32) <<< (nI 1 &&& 31)) else (if f 0 = true then 0 ||| ((1 : Int32) <<< (nI 0 &&& 31)) else 0) := rfl
  rw [e]
  by_cases h1 : f 1 = true <;> by_cases h0 : f 0 = true <;> simp only [h1, h0, if_true, if_false] <;> decide
theorem sp_keysOf {Post : Int32 → Mem → Prop} {M : Mem} {p : Nat} (h : Post (orU (fun k => decide (stM M 4 k = nI p)) 2) M) : wp_X12_keysOf Post M (nI p) := by
  have e0 : stM M 4 0 = rd M 37 0 := cut_lt (by omega)
  have e1 : stM M 4 1 = rd M 37 1 := cut_lt (by omega)
  rw [or2, e0, e1] at h
  unfold wp_X12_keysOf wp_X12_keysOf_b15
  rw [c0, c1, in0_2, in1_2]
  by_cases h0 : rd M 37 0 = nI p <;> by_cases h1 : rd M 37 1 = nI p <;> simp [h0, h1] at h ⊢ <;> exact h
theorem sp_doorBits {Post : Int32 → Mem → Prop} {M : Mem} {o a b c d p : Nat} (hC : CO M o a b c d) (hp : p < 4) (h : Post (orU (fun k => goB (stC M o) p k ((tvC M o).2.1 p)) b) M) : wp_X0_doorBits Post M o (nI p) := by
  intro P4 h4
  have hB := hC.2.2.2.2.1
  unfold BD at hB
  refine for_acc (P := P4) (n := b) (orU (fun k => goB (stC M o) p k ((tvC M o).2.1 p))) (h4 _ _ _ ⟨fun _ => h, fun z => absurd (by rw [hC.2.1]; exact Int32.le_refl _) z⟩) (fun i hi ih => h4 _ _ _ ⟨fun z => absurd z (by rw [hC.2.1]; exact le_n (by omega) hi), fun _ => ?_⟩)
  rw [eqc_go hC hp hi]
  rw [orU] at ih
  by_cases g : goB (stC M o) p i ((tvC M o).2.1 p) = true
  · rw [if_pos g] at ih ⊢
    refine ⟨fun z => absurd z (by decide), fun _ x2 hx2 x3 hx3 => ?_⟩
    rw [hx2, hx3, nI_1]; exact ih
  · rw [if_neg g] at ih ⊢
    refine ⟨fun _ x3 hx3 => ?_, fun z => absurd rfl z⟩
    rw [hx3, nI_1]; exact ih
theorem sp_doorsOf {Post : Int32 → Mem → Prop} {M : Mem} {a b c d p : Nat} (hC : MO M a b c d) (hp : p < 4) (h : Post (orU (fun k => goB (stM M) p k ((tvM M).2.1 p)) b) M) : wp_X12_doorsOf Post M (nI p) := by
  intro P4 h4
  have hB := hC.2.2.2.2.1
  have hB2 := hB
  unfold BD at hB
  have n1 := cl4 (p := p) (by omega)
  have e : (tvM M).2.1 p = rd M 36 p := cut_lt hp
  refine for_acc (P := P4) (n := b) (orU (fun k => goB (stM M) p k ((tvM M).2.1 p))) (h4 _ _ _ ⟨fun _ => h, fun z => absurd (by rw [hC.2.1]; exact Int32.le_refl _) z⟩) (fun i hi ih => h4 _ _ _ ⟨fun z => absurd z (by rw [hC.2.1]; exact le_n (by omega) hi), fun _ => ⟨vp_in_nI (by omega) (by omega), ?_⟩⟩)
  rw [eqm_thr hC hp hi, n1, ← e, nxt_go hB2 hC.2.2.2.2.2 hi]
  rw [orU] at ih
  by_cases g : goB (stM M) p i ((tvM M).2.1 p) = true
  · rw [if_pos g] at ih
    refine ⟨fun z => absurd g z, fun _ x2 hx2 x3 hx3 => ?_⟩
    rw [hx2, hx3, nI_1]; exact ih
  · rw [if_neg g] at ih
    refine ⟨fun _ x2 hx2 x3 hx3 => ?_, fun z => absurd g z⟩
    have : orU (fun k => goB (stM M) p k ((tvM M).2.1 p)) i ||| 0 = orU (fun k => goB (stM M) p k ((tvM M).2.1 p)) i := by simp
    rw [hx2, hx3, nI_1, this]; exact ih
theorem sp_payableBits {Post : Int32 → Mem → Prop} {M : Mem} {o a b c d p : Nat} (hC : CO M o a b c d) (h : Post (orU (fun k => decide (stC M o 5 k = nI p) && mayB (stC M o) (tvC M o) k) d) M) : wp_X0_payableBits Post M o (nI p) := by
  intro P4 h4
  have hB := hC.2.2.2.2.1
  unfold BD at hB
  refine for_acc (P := P4) (n := d) (orU (fun k => decide (stC M o 5 k = nI p) && mayB (stC M o) (tvC M o) k)) (h4 _ _ _ ⟨fun _ => h, fun z => absurd (by rw [hC.2.2.2.1]; exact Int32.le_refl _) z⟩) (fun i hi ih => h4 _ _ _ ⟨fun z => absurd z (by rw [hC.2.2.2.1]; exact le_n (by omega) hi), fun _ => ⟨vp_in_nI (by omega) (by omega), ?_⟩⟩)
  have n1 := cl4 (p := i) (by omega)
  have e : stC M o 5 i = rd M 8 i := rfl
  rw [orU, e] at ih
  rw [n1, eqc_may hC hi]
  by_cases g : rd M 8 i = nI p
  · refine ⟨fun z => absurd g z, fun _ => ?_⟩
    by_cases m : mayB (stC M o) (tvC M o) i = true
    · rw [if_pos (and_t g m)] at ih
      rw [if_pos m]
      refine ⟨fun z => absurd z (by decide), fun _ x2 hx2 x3 hx3 => ?_⟩
      rw [hx2, hx3, nI_1]; exact ih
    · rw [if_neg (and_f2 m)] at ih
      rw [if_neg m]
      refine ⟨fun _ x3 hx3 => ?_, fun z => absurd rfl z⟩
      rw [hx3, nI_1]; exact ih
  · rw [if_neg (and_f1 g)] at ih
    refine ⟨fun _ x3 hx3 => ?_, fun z => absurd z g⟩
    rw [hx3, nI_1]; exact ih
theorem sp_mayPayM {Post : Int32 → Mem → Prop} {M : Mem} {a b c d p : Nat} (hC : MO M a b c d) (h : ∀ M', FT M M' → Post (orU (fun k => decide (stM M 5 k = nI p) && mayB (stM M) (tvM M) k) d) M') : wp_X12_mayPay Post M (nI p) := by
  intro P4 h4
  have hB := hC.2.2.2.2.1
  unfold BD at hB
  refine sp_begin (fun M2 f2 g2 => ?_)
  have hC2 := f2.mo hC
  refine for_acc (P := P4) (n := d) (orU (fun k => decide (stM M 5 k = nI p) && mayB (stM M) (tvM M) k)) (h4 _ _ _ ⟨fun _ => h M2 f2, fun z => absurd (by rw [hC2.2.2.2.1]; exact Int32.le_refl _) z⟩) (fun i hi ih => h4 _ _ _ ⟨fun z => absurd z (by rw [hC2.2.2.2.1]; exact le_n (by omega) hi), fun _ => ⟨vp_in_nI (by omega) (by omega), ?_⟩⟩)
  have n1 := cl4 (p := i) (by omega)
  have e : stM M 5 i = rd M2 38 i := (congrFun (congrFun f2.st 5) i).symm
  have z0 : ∀ x : Int32, x ||| 0 = x := fun x => by simp
  rw [orU, e] at ih
  rw [n1, eqm_may hC2 hi, f2.st, g2]
  unfold wp_X12_mayPay_b41
  by_cases g : rd M2 38 i = nI p
  · refine ⟨fun z => absurd g z, fun _ => ?_⟩
    by_cases m : mayB (stM M) (tvM M) i = true
    · rw [if_pos (and_t g m)] at ih
      rw [if_pos m]
      refine ⟨fun z => absurd z (by decide), fun _ x2 hx2 x3 hx3 => ?_⟩
      rw [hx2, hx3, nI_1]; exact ih
    · rw [if_neg (and_f2 m)] at ih
      rw [if_neg m]
      refine ⟨fun _ x2 hx2 x3 hx3 => ?_, fun z => absurd rfl z⟩
      rw [hx2, hx3, nI_1, z0]; exact ih
  · rw [if_neg (and_f1 g)] at ih
    refine ⟨fun _ x2 hx2 x3 hx3 => ?_, fun z => absurd z g⟩
    rw [hx2, hx3, nI_1, z0]; exact ih
def stdU (H : Nat → Nat → Int32) (T : TV) (p : Nat) : Nat → Int32
  | 0 => 100 + T.1 p
  | n + 1 => if T.2.2 n = 0 then (if H 6 n = nI p then stdU H T p n + H 8 n else if H 5 n = nI p then stdU H T p n - H 8 n else stdU H T p n) else stdU H T p n
theorem sp_standing {Post : Int32 → Mem → Prop} {M : Mem} {o a b c d p : Nat} (hC : CO M o a b c d) (hp : p < 4) (h : Post (stdU (stC M o) (tvC M o) p d) M) : wp_X0_standing Post M o (nI p) := by
  intro P4 h4
  have hB := hC.2.2.2.2.1
  unfold BD at hB
  have n0 := cl4 (p := p) (by omega)
  have ep : (tvC M o).1 p = rd M (o + 1) p := cut_lt hp
  refine ⟨vp_in_nI (by omega) (by omega), fun x1 hx1 => ?_⟩
  rw [hx1, n0, ← ep]
  refine for_acc (P := P4) (n := d) (stdU (stC M o) (tvC M o) p) (h4 _ _ _ ⟨fun _ => h, fun z => absurd (by rw [hC.2.2.2.1]; exact Int32.le_refl _) z⟩) (fun i hi ih => h4 _ _ _ ⟨fun z => absurd z (by rw [hC.2.2.2.1]; exact le_n (by omega) hi), fun _ => ?_⟩)
  have n1 := cl4 (p := i) (by omega)
  have e : (tvC M o).2.2 i = rd M (o + 5) i := cut_lt (by omega)
  have e5 : stC M o 5 i = rd M 8 i := rfl
  have e6 : stC M o 6 i = rd M 9 i := rfl
  have e8 : stC M o 8 i = rd M (o + 4) i := cut_lt (by omega)
  have v := vp_in_nI (n := i) (N := 4) (by omega) (by omega)
  rw [stdU, e, e5, e6, e8] at ih
  rw [n1]
  refine ⟨v, fun z => ?_, fun z x3 hx3 => ?_⟩
  · rw [if_pos z] at ih
    refine ⟨v, fun y => ⟨v, fun w x3 hx3 => ?_, fun w => ⟨v, fun x2 hx2 x3 hx3 => ?_⟩⟩, fun y => ⟨v, fun x2 hx2 x3 hx3 => ?_⟩⟩
    · rw [if_neg y, if_neg w] at ih
      rw [hx3, nI_1]; exact ih
    · rw [if_neg y, if_pos w] at ih
      rw [hx2, hx3, nI_1]; exact ih
    · rw [if_pos y] at ih
      rw [hx2, hx3, nI_1]; exact ih
  · rw [if_neg z] at ih
    rw [hx3, nI_1]; exact ih
theorem sp_standingM {Post : Int32 → Mem → Prop} {M : Mem} {a b c d p : Nat} (hC : MO M a b c d) (hp : p < 4) (h : Post (stdU (stM M) (tvM M) p d) M) : wp_X12_standing Post M (nI p) := by
  intro P4 h4
  have hB := hC.2.2.2.2.1
  unfold BD at hB
  have n0 := cl4 (p := p) (by omega)
  have ep : (tvM M).1 p = rd M 35 p := cut_lt hp
  refine ⟨vp_in_nI (by omega) (by omega), fun x1 hx1 => ?_⟩
  rw [hx1, n0, ← ep]
  refine for_acc (P := P4) (n := d) (stdU (stM M) (tvM M) p) (h4 _ _ _ ⟨fun _ => h, fun z => absurd (by rw [hC.2.2.2.1]; exact Int32.le_refl _) z⟩) (fun i hi ih => h4 _ _ _ ⟨fun z => absurd z (by rw [hC.2.2.2.1]; exact le_n (by omega) hi), fun _ => ?_⟩)
  obtain ⟨x, y, z, hx, hy, hxy, -, d5, d6, d7⟩ := hC.2.2.2.2.2.2.2.2.1 i hi
  have n1 := cl4 (p := i) (by omega)
  have e : (tvM M).2.2 i = rd M 42 i := cut_lt (by omega)
  have e5 : stM M 5 i = rd M 38 i := rfl
  have e6 : stM M 6 i = rd M 39 i := rfl
  have e8 : stM M 8 i = rd M 41 i := cut_lt (by omega)
  have d5 : rd M 38 i = nI x := d5
  have d6 : rd M 39 i = nI y := d6
  have v := vp_in_nI (n := i) (N := 4) (by omega) (by omega)
  rw [stdU, e, e5, e6, e8] at ih
  have z1 : ∀ u w : Int32, u + w - 0 = u + w := fun u w => by simp
  have z2 : ∀ u w : Int32, u + 0 - w = u - w := fun u w => by simp
  have z3 : ∀ u : Int32, u + 0 - 0 = u := fun u => by simp
  unfold wp_X12_standing_b12 wp_X12_standing_b50 at *
  rw [n1]
  refine ⟨v, fun z x3 hx3 => ?_, fun z => ⟨v, fun y1 => ?_, fun y1 => ⟨v, ?_⟩⟩⟩
  · rw [if_neg z] at ih
    rw [hx3, nI_1]; exact ih
  · rw [if_pos z, if_neg y1] at ih
    rintro x2 rfl
    refine ⟨v, fun w x4 hx4 x5 hx5 => ?_, fun w => ⟨v, fun x4 hx4 x5 hx5 => ?_⟩⟩
    · rw [if_neg w] at ih
      rw [hx4, hx5, nI_1, z3]; exact ih
    · rw [if_pos w] at ih
      rw [hx4, hx5, nI_1, z2]; exact ih
  · rw [if_pos z, if_pos y1] at ih
    rintro x2 rfl
    refine ⟨v, fun w x4 hx4 x5 hx5 => ?_, fun w => ?_⟩
    · rw [hx4, hx5, nI_1, z1]; exact ih
    · exact absurd ((nI_eq (by omega) (by omega)).mp ((d5.symm.trans w).trans (y1.symm.trans d6))) hxy
