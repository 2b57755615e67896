theorem ob_winters {n : Nat} {M : Mem} (hI : Inv n M) (v1 v2 v3 : Int32) : OB (fun P M => wp_X11_winters P M v1 v2 v3) (fun P M => wp_X12_winters P M v1 v2 v3) M := by
  obtain ⟨a, b, c, d, hC, hM, hT⟩ := hI.both
  have hB := hC.2.2.2.2.1
  unfold BD at hB
  have i1 : v1 < 1 ↔ v1.toInt < 1 := by rw [Int32.lt_iff_toInt_lt]; rfl
  have i60 : 60 < v1 ↔ 60 < v1.toInt := by rw [Int32.lt_iff_toInt_lt]; rfl
  have i0 : v3 < 0 ↔ v3.toInt < 0 := lt0_iff
  have i2 : v3 ≤ 2 ↔ v3.toInt ≤ 2 := le9 (k := 2) (by omega)
  have j1 := in_iff (v := v1) (b := 1) (c := 60) (lo := 1) (hi := 60) (by decide) (by decide)
  have j2 := in_iff (v := v3) (b := 0) (c := 2) (lo := 0) (hi := 2) (by decide) (by decide)
  by_cases good : (1 ≤ v1.toInt ∧ v1.toInt ≤ 60) ∧ ¬ v2 < 0 ∧ 0 ≤ v3.toInt ∧ v3.toInt ≤ 2
  · obtain ⟨g1, g2, g3⟩ := good
    have y1 : ¬ v1 < 1 := by rw [i1]; omega
    have y2 : ¬ 60 < v1 := by rw [i60]; omega
    have y3 : ¬ v3 < 0 := by rw [i0]; omega
    have y4 : v3 ≤ 2 := by rw [i2]; omega
    have k1 := j1.mpr g1
    have k2 := j2.mpr g3
    by_cases hc0 : c = 0
    · refine OB.one (-103) (fun M1 P f h => ?_) (fun M1 P f h => ?_)
      · have hC1 := (f.both hI hC hM).1
        intro P70 h70
        refine ⟨fun z => absurd z y1, fun _ => ⟨fun z => absurd z y2, fun _ => ⟨fun z => absurd z g2, fun _ => ⟨fun z => absurd z y3, fun _ => ⟨fun _ => ⟨fun _ => h, fun z => absurd (by rw [hC1.2.2.1, hc0]; rfl) z⟩, fun z => absurd y4 z⟩⟩⟩⟩⟩
      · have hM1 := (f.both hI hC hM).2
        intro P56 h56
        rw [eq_in, if_pos k1]
        refine ⟨fun z => absurd z (by decide), fun _ => ⟨fun z => absurd z g2, fun _ => ?_⟩⟩
        rw [eq_in, if_pos k2]
        refine ⟨fun _ => ?_, fun z => absurd z (by decide)⟩
        rw [eq_lacks, if_pos (by rw [hM1.2.2.1, hc0]; rfl)]
        exact ⟨fun z => absurd z (by decide), fun _ => h⟩
    · obtain ⟨t, ht, rfl⟩ := vp_ex (v := v1) (n := 61) (vp_iff.mpr (by omega)) (by omega)
      refine ⟨wnR sdN (stM M) b c d (tvM M) v2 v3 t, fun M1 P f h => ?_, fun M1 P f h => ?_⟩
      · have hC1 := (f.both hI hC hM).1
        have nc : ¬ rd M1 3 2 = 0 := by rw [hC1.2.2.1]; exact nI_ne0 (by omega) (by omega)
        have nb : ¬ rd M1 3 1 = 0 := by rw [hC1.2.1]; exact nI_ne0 (by omega) (by omega)
        obtain ⟨s, s1, s2, s3, s4, s5, s6⟩ := (f.inv hI).sees hC1
        intro P70 h70
        refine ⟨fun z => absurd z y1, fun _ => ⟨fun z => absurd z y2, fun _ => ⟨fun z => absurd z g2, fun _ => ⟨fun z => absurd z y3, fun _ => ⟨fun _ => ⟨fun z => absurd z nc, fun _ => ⟨fun _ => ?_, fun z => absurd z nb⟩⟩, fun z => absurd y4 z⟩⟩⟩⟩⟩
        refine sp_wintersC sdN ns_ok dr_ok hC1 (by rw [f.ct hI]; exact hT.2) s5 (by omega) (by omega) (by omega) (fun M' g1 g2 => ?_) P70 h70
        rw [f.cs hI, f.ct hI]
        exact h M' g1 g2
      · have hM1 := (f.both hI hC hM).2
        have nc : ¬ rd M1 29 6 = 0 := by rw [hM1.2.2.1]; exact nI_ne0 (by omega) (by omega)
        intro P56 h56
        rw [eq_in, if_pos k1]
        refine ⟨fun z => absurd z (by decide), fun _ => ⟨fun z => absurd z g2, fun _ => ?_⟩⟩
        rw [eq_in, if_pos k2]
        refine ⟨fun _ => ?_, fun z => absurd z (by decide)⟩
        rw [eq_lacks, if_neg nc]
        refine ⟨fun _ => ?_, fun z => absurd rfl z⟩
        rintro M7 rfl
        refine sp_wintersM sdN dr_eq dr_ok hM1 (by omega) (by omega) (by omega) (fun M' g1 => ?_) P56 h56
        rw [f.st, f.tv]
        exact h M' g1.fr g1.2
  · refine OB.one (-102) (fun M1 P f h => ?_) (fun M1 P f h => ?_)
    · intro P70 h70
      refine ⟨fun _ => h, fun z1 => ⟨fun _ => h, fun z2 => ⟨fun _ => h, fun z3 => ⟨fun _ => h, fun z4 => ⟨fun z5 => ?_, fun _ => h⟩⟩⟩⟩⟩
      rw [i1] at z1
      rw [i60] at z2
      rw [i0] at z4
      rw [i2] at z5
      exact absurd ⟨⟨by omega, by omega⟩, z3, by omega, by omega⟩ good
    · intro P56 h56
      rw [eq_in]
      by_cases k1 : (1 : Int64) ≤ v1.toInt64 ∧ v1.toInt64 ≤ 60
      · rw [if_pos k1]
        refine ⟨fun z => absurd z (by decide), fun _ => ⟨fun _ => h, fun z3 => ?_⟩⟩
        rw [eq_in]
        by_cases k2 : (0 : Int64) ≤ v3.toInt64 ∧ v3.toInt64 ≤ 2
        · exact absurd ⟨j1.mp k1, z3, j2.mp k2⟩ good
        · rw [if_neg k2]
          exact ⟨fun z => absurd rfl z, fun _ => h⟩
      · rw [if_neg k1]
        exact ⟨fun _ => h, fun z => absurd rfl z⟩
/-! ===== who could pay all ===== -/
def owA (H : Nat → Nat → Int32) (T : TV) (p : Nat) : Nat → Int32 := sumU (fun k => if H 5 k = nI p ∧ T.2.2 k = 0 then cosH H k else 0)
def setA (H : Nat → Nat → Int32) (p : Nat) (T : TV) : Nat → TV
  | 0 => T
  | k + 1 => if H 5 k = nI p ∧ (setA H p T k).2.2 k = 0 then stl H (setA H p T k) k else setA H p T k
def rnP (H : Nat → Nat → Int32) (d p : Nat) (T : TV) : TV := if T.1 p < owA H T p d then T else setA H p T d
def rnd (H : Nat → Nat → Int32) (d : Nat) (T : TV) : Nat → TV
  | 0 => T
  | p + 1 => rnP H d p (rnd H d T p)
def rns (H : Nat → Nat → Int32) (c d : Nat) (T : TV) : Nat → TV
  | 0 => T
  | r + 1 => rnd H d (rns H c d T r) c
theorem eqc_owes {Post : Int32 → Mem → Prop} {M : Mem} {o a b c d p k : Nat} (hC : CO M o a b c d) (hk : k < d) : wp_X0_owesStill Post M o (nI p) (nI k) = if stC M o 5 k = nI p ∧ (tvC M o).2.2 k = 0 then Post 1 M else Post 0 M := by
  have hB := hC.2.2.2.2.1
  unfold BD at hB
  have n1 := cl4 (p := k) (by omega)
  have v4 : vp_in (nI k) 4 = True := in_n (by omega) (by omega)
  have e5 : stC M o 5 k = rd M 8 k := rfl
  have e : (tvC M o).2.2 k = rd M (o + 5) k := cut_lt (by omega)
  rw [e5, e]
  unfold wp_X0_owesStill
  rw [n1, v4]
  by_cases g : rd M 8 k = nI p <;> by_cases z : rd M (o + 5) k = 0 <;> simp [g, z]
theorem sp_costOfAll {Post : Int32 → Mem → Prop} {M : Mem} {o a b c d p : Nat} (hC : CO M o a b c d) (h : Post (owA (stC M o) (tvC M o) p d) M) : wp_X0_costOfAll Post M o (nI p) := by
  intro P4 h4
  have hB := hC.2.2.2.2.1
  unfold BD at hB
  refine for_acc (P := P4) (n := d) (owA (stC M o) (tvC M o) p) (h4 _ _ _ ⟨fun _ => h, fun z => absurd (by rw [hC.2.2.2.1]; exact Int32.le_refl _) z⟩) (fun i hi ih => h4 _ _ _ ⟨fun z => absurd z (by rw [hC.2.2.2.1]; exact le_n (by omega) hi), fun _ => ?_⟩)
  have e : owA (stC M o) (tvC M o) p (i + 1) = owA (stC M o) (tvC M o) p i + (if stC M o 5 i = nI p ∧ (tvC M o).2.2 i = 0 then cosH (stC M o) i else 0) := rfl
  rw [e] at ih
  rw [eqc_owes hC hi]
  by_cases g : stC M o 5 i = nI p ∧ (tvC M o).2.2 i = 0
  · rw [if_pos g] at ih ⊢
    refine ⟨fun z => absurd z (by decide), fun _ => ?_⟩
    rw [eqc_cost hC hi]
    intro x2 hx2 x3 hx3
    rw [hx2, hx3, nI_1]; exact ih
  · rw [if_neg g] at ih ⊢
    refine ⟨fun _ x3 hx3 => ?_, fun z => absurd rfl z⟩
    have z0 : ∀ x : Int32, x + 0 = x := fun x => by simp
    rw [z0] at ih
    rw [hx3, nI_1]; exact ih
theorem sp_owesThen {Post : Int32 → Mem → Prop} {M : Mem} {a b c d p : Nat} (hC : MO M a b c d) (h : Post (owA (stM M) (tvT M) p d) M) : wp_X12_owesThen Post M (nI p) := by
  intro P4 h4
  have hB := hC.2.2.2.2.1
  unfold BD at hB
  refine for_acc (P := P4) (n := d) (owA (stM M) (tvT M) p) (h4 _ _ _ ⟨fun _ => h, fun z => absurd (by rw [hC.2.2.2.1]; exact Int32.le_refl _) z⟩) (fun i hi ih => h4 _ _ _ ⟨fun z => absurd z (by rw [hC.2.2.2.1]; exact le_n (by omega) hi), fun _ => ?_⟩)
  have e : owA (stM M) (tvT M) p (i + 1) = owA (stM M) (tvT M) p i + (if stM M 5 i = nI p ∧ (tvT M).2.2 i = 0 then cosH (stM M) i else 0) := rfl
  have n1 := cl4 (p := i) (by omega)
  have v := vp_in_nI (n := i) (N := 4) (by omega) (by omega)
  have e5 : stM M 5 i = rd M 38 i := rfl
  have ep : (tvT M).2.2 i = rd M 45 i := cut_lt (by omega)
  rw [e, e5, ep] at ih
  rw [n1, eqm_cost hC hi]
  unfold wp_X12_owesThen_b40
  refine ⟨v, fun z x2 hx2 x3 hx3 => ?_, fun z => ⟨v, fun y x2 hx2 x3 hx3 => ?_, fun y x2 hx2 x3 hx3 => ?_⟩⟩
  · rw [if_neg (fun t => z t.1)] at ih
    rw [hx2, hx3, nI_1]; exact ih
  · rw [if_neg (fun t => y t.2)] at ih
    rw [hx2, hx3, nI_1]; exact ih
  · rw [if_pos ⟨z, y⟩] at ih
    rw [hx2, hx3, nI_1]; exact ih
theorem sp_settleAll {Post : Mem → Prop} {M : Mem} {o a b c d p : Nat} (hC : CO M o a b c d) (ho : 59 ≤ o) (h : ∀ M', FA o M M' → tvC M' o = setA (stC M o) p (tvC M o) d → Post M') : wp_X0_settleAll Post M o (nI p) := by
  intro P2 h2
  have hB := hC.2.2.2.2.1
  unfold BD at hB
  refine for_up (S := Mem) (P := fun t i => P2 t i) (n := d) (fun i t => FA o M t ∧ tvC t o = setA (stC M o) p (tvC M o) i) (fun t ht => ?_) (fun i t hi ht ih => ?_) 0 (Nat.zero_le _) M ⟨FA.rf o M, rfl⟩
  · have hC' := ht.1.co ho hC
    exact h2 _ _ ⟨fun _ => h t ht.1 ht.2, fun z => absurd (by rw [hC'.2.2.2.1]; exact Int32.le_refl _) z⟩
  · obtain ⟨f, e⟩ := ht
    have hC' := f.co ho hC
    have hH := f.st ho
    refine h2 _ _ ⟨fun z => absurd z (by rw [hC'.2.2.2.1]; exact le_n (by omega) hi), fun _ => ?_⟩
    have sn : setA (stC M o) p (tvC M o) (i + 1) = if stC M o 5 i = nI p ∧ (tvC t o).2.2 i = 0 then stl (stC M o) (tvC t o) i else tvC t o := by rw [setA, ← e]
    rw [eqc_owes hC' hi, hH]
    by_cases g : stC M o 5 i = nI p ∧ (tvC t o).2.2 i = 0
    · rw [if_pos g]
      rw [if_pos g] at sn
      refine ⟨fun z => absurd z (by decide), fun _ => sp_settle hC' hi (fun M7 f7 g7 => ?_)⟩
      intro x2 hx2
      rw [hx2, nI_1]
      refine ih M7 ⟨f.tr f7.fa, ?_⟩
      rw [sn, g7, hH]
    · rw [if_neg g]
      rw [if_neg g] at sn
      refine ⟨fun _ x2 hx2 => ?_, fun z => absurd rfl z⟩
      rw [hx2, nI_1]
      exact ih t ⟨f, sn.symm⟩
theorem sp_payWhoCan {Post : Int32 → Mem → Prop} {M : Mem} {o a b c d : Nat} (hC : CO M o a b c d) (ho : 59 ≤ o) (h : ∀ M', FA o M M' → Post (orU (fun p => decide (owA (stC M o) (rns (stC M o) c d (tvC M o) c) p d = 0)) c) M') : wp_X0_payWhoCan Post M o := by
  intro P2 P15 P61 h2 h15 h61
  have hB := hC.2.2.2.2.1
  unfold BD at hB
  refine for_up (S := Mem) (P := fun t i => P2 t i) (n := c) (fun i t => FA o M t ∧ tvC t o = rns (stC M o) c d (tvC M o) i) (fun t ht => ?_) (fun i t hi ht ih => ?_) 0 (Nat.zero_le _) M ⟨FA.rf o M, rfl⟩
  · obtain ⟨f, e⟩ := ht
    have hC' := f.co ho hC
    have hH := f.st ho
    refine h2 _ _ ⟨fun _ => ?_, fun z => absurd (by rw [hC'.2.2.1]; exact Int32.le_refl _) z⟩
    refine for_acc (P := P61) (n := c) (orU (fun p => decide (owA (stC M o) (rns (stC M o) c d (tvC M o) c) p d = 0))) (h61 _ _ _ ⟨fun _ => h t f, fun z => absurd (by rw [hC'.2.2.1]; exact Int32.le_refl _) z⟩) (fun j hj ih => h61 _ _ _ ⟨fun z => absurd z (by rw [hC'.2.2.1]; exact le_n (by omega) hj), fun _ => ?_⟩)
    refine sp_costOfAll hC' ?_
    rw [hH, e]
    rw [orU] at ih
    refine ⟨fun z x2 hx2 => ?_, fun z x1 hx1 x2 hx2 => ?_⟩
    · rw [if_neg (by rw [decide_eq_true_iff]; exact z)] at ih
      rw [hx2, nI_1]; exact ih
    · rw [if_pos (by rw [decide_eq_true_iff]; exact z)] at ih
      rw [hx1, hx2, nI_1]; exact ih
  · obtain ⟨f, e⟩ := ht
    have hC' := f.co ho hC
    refine h2 _ _ ⟨fun z => absurd z (by rw [hC'.2.2.1]; exact le_n (by omega) hi), fun _ => ?_⟩
    refine for_up (S := Mem) (P := fun u j => P15 u (nI i) j) (n := c) (fun j u => FA o M u ∧ tvC u o = rnd (stC M o) d (tvC t o) j) (fun u hu => ?_) (fun j u hj hu ih2 => ?_) 0 (Nat.zero_le _) t ⟨f, rfl⟩
    · have hC2 := hu.1.co ho hC
      refine h15 _ _ _ ⟨fun _ x1 hx1 => ?_, fun z => absurd (by rw [hC2.2.2.1]; exact Int32.le_refl _) z⟩
      rw [hx1, nI_1]
      refine ih u ⟨hu.1, ?_⟩
      rw [hu.2, rns, ← e]
    · obtain ⟨f2, e2⟩ := hu
      have hC2 := f2.co ho hC
      have hH2 := f2.st ho
      have n1 := cl4 (p := j) (by omega)
      have er : (tvC u o).1 j = rd u (o + 1) j := cut_lt (by omega)
      refine h15 _ _ _ ⟨fun z => absurd z (by rw [hC2.2.2.1]; exact le_n (by omega) hj), fun _ => ⟨vp_in_nI (by omega) (by omega), ?_⟩⟩
      refine sp_costOfAll hC2 ?_
      rw [n1, hH2, ← er]
      have rn : rnd (stC M o) d (tvC t o) (j + 1) = rnP (stC M o) d j (tvC u o) := by rw [rnd, ← e2]
      unfold rnP at rn
      refine ⟨fun z x2 hx2 => ?_, fun z => ?_⟩
      · rw [hx2, nI_1]
        rw [if_pos z] at rn
        exact ih2 u ⟨f2, rn.symm⟩
      · rw [if_neg z] at rn
        refine sp_settleAll hC2 ho (fun M7 f7 g7 => ?_)
        intro x2 hx2
        rw [hx2, nI_1]
        refine ih2 M7 ⟨f2.tr f7, ?_⟩
        rw [rn, g7, hH2]
theorem sp_soundOf {Post : Int32 → Mem → Prop} {M : Mem} {a b c d : Nat} (hC : MO M a b c d) (h : ∀ M', FT M M' → Post (orU (fun p => decide (owA (stM M) (rns (stM M) c d (tvM M) 4) p d = 0)) c) M') : wp_X12_soundOf Post M := by
  intro P6 P13 P44 P106 h6 h13 h44 h106
  have hB := hC.2.2.2.2.1
  unfold BD at hB
  refine sp_begin (fun M2 f0 g0 => ?_)
  refine for_up (S := Mem) (P := fun t i => P6 t i) (n := 4) (fun i t => FT M t ∧ tvT t = rns (stM M) c d (tvM M) i) (fun t ht => ?_) (fun i t hi ht ih => ?_) 0 (Nat.zero_le _) M2 ⟨f0, g0⟩
  · obtain ⟨f, e⟩ := ht
    have hC' := f.mo hC
    have hH := f.st
    refine h6 _ _ ⟨fun _ => ?_, fun z => absurd (Int32.le_refl _) z⟩
    refine for_acc (P := P106) (n := c) (orU (fun p => decide (owA (stM M) (rns (stM M) c d (tvM M) 4) p d = 0))) (h106 _ _ _ ⟨fun _ => h t f, fun z => absurd (by rw [hC'.2.2.1]; exact Int32.le_refl _) z⟩) (fun j hj ih => h106 _ _ _ ⟨fun z => absurd z (by rw [hC'.2.2.1]; exact le_n (by omega) hj), fun _ => ?_⟩)
    refine sp_owesThen hC' ?_
    rw [hH, e]
    rw [orU] at ih
    refine ⟨fun z x1 hx1 x2 hx2 => ?_, fun z x1 hx1 x2 hx2 => ?_⟩
    · rw [if_neg (by rw [decide_eq_true_iff]; exact z)] at ih
      have z0 : ∀ x : Int32, x ||| 0 = x := fun x => by simp
      rw [hx1, hx2, nI_1, z0]; exact ih
    · rw [if_pos (by rw [decide_eq_true_iff]; exact z)] at ih
      rw [hx1, hx2, nI_1]; exact ih
  · obtain ⟨f, e⟩ := ht
    refine h6 _ _ ⟨fun z => absurd z (le_n (n := 4) (by omega) hi), fun _ => ?_⟩
    refine for_up (S := Mem) (P := fun u j => P13 u (nI i) j) (n := c) (fun j u => FT M u ∧ tvT u = rnd (stM M) d (tvT t) j) (fun u hu => ?_) (fun j u hj hu ih2 => ?_) 0 (Nat.zero_le _) t ⟨f, rfl⟩
    · have hC2 := hu.1.mo hC
      refine h13 _ _ _ ⟨fun _ x1 hx1 => ?_, fun z => absurd (by rw [hC2.2.2.1]; exact Int32.le_refl _) z⟩
      rw [hx1, nI_1]
      refine ih u ⟨hu.1, ?_⟩
      rw [hu.2, rns, ← e]
    · obtain ⟨f2, e2⟩ := hu
      have hC2 := f2.mo hC
      have hH2 := f2.st
      have n1 := cl4 (p := j) (by omega)
      have er : (tvT u).1 j = rd u 43 j := cut_lt (by omega)
      refine h13 _ _ _ ⟨fun z => absurd z (by rw [hC2.2.2.1]; exact le_n (by omega) hj), fun _ => ⟨vp_in_nI (by omega) (by omega), ?_⟩⟩
      refine sp_owesThen hC2 ?_
      rw [n1, hH2, ← er]
      have rn : rnd (stM M) d (tvT t) (j + 1) = rnP (stM M) d j (tvT u) := by rw [rnd, ← e2]
      unfold rnP at rn
      refine ⟨fun z => ?_, fun z => ?_⟩
      · rw [if_pos z] at rn
        have nx := ih2 u ⟨f2, rn.symm⟩
        refine h44 _ _ _ _ _ ⟨fun _ x2 hx2 => ?_, fun _ => ⟨fun _ x2 hx2 => ?_, fun y => absurd rfl y⟩⟩
        · rw [hx2, nI_1]; exact nx
        · rw [hx2, nI_1]; exact nx
      · rw [if_neg z] at rn
        refine for_up (S := Mem) (P := fun w k => P44 w (nI i) (nI j) 1 k) (n := d) (fun k w => FT M w ∧ tvT w = setA (stM M) j (tvT u) k) (fun w hw => ?_) (fun k w hk hw ih3 => ?_) 0 (Nat.zero_le _) u ⟨f2, rfl⟩
        · have hC3 := hw.1.mo hC
          refine h44 _ _ _ _ _ ⟨fun _ x2 hx2 => ?_, fun y => absurd (by rw [hC3.2.2.2.1]; exact Int32.le_refl _) y⟩
          rw [hx2, nI_1]
          refine ih2 w ⟨hw.1, ?_⟩
          rw [rn, hw.2]
        · obtain ⟨f3, e3⟩ := hw
          have hC3 := f3.mo hC
          have hH3 := f3.st
          have n2 := cl4 (p := k) (by omega)
          have v := vp_in_nI (n := k) (N := 4) (by omega) (by omega)
          have e5 : stM M 5 k = rd w 38 k := by rw [← hH3]; rfl
          have ep : (tvT w).2.2 k = rd w 45 k := cut_lt (by omega)
          have sn : setA (stM M) j (tvT u) (k + 1) = if stM M 5 k = nI j ∧ (tvT w).2.2 k = 0 then stl (stM M) (tvT w) k else tvT w := by rw [setA, ← e3]
          rw [e5, ep] at sn
          refine h44 _ _ _ _ _ ⟨fun y => absurd y (by rw [hC3.2.2.2.1]; exact le_n (by omega) hk), fun _ => ⟨fun y => absurd y (by decide), fun _ => ?_⟩⟩
          rw [n2]
          refine ⟨v, fun y x4 hx4 => ?_, fun y => ⟨v, fun y2 x4 hx4 => ?_, fun y2 => ?_⟩⟩
          · rw [if_neg (fun q => y q.1)] at sn
            rw [hx4, nI_1]
            exact ih3 w ⟨f3, sn.symm⟩
          · rw [if_neg (fun q => y2 q.2)] at sn
            rw [hx4, nI_1]
            exact ih3 w ⟨f3, sn.symm⟩
          · rw [if_pos ⟨y, y2⟩] at sn
            refine sp_payThen hC3 hk (fun M7 f7 g7 => ?_)
            intro x4 hx4
            rw [hx4, nI_1]
            refine ih3 M7 ⟨f3.tr f7, ?_⟩
            rw [sn, g7, hH3]
