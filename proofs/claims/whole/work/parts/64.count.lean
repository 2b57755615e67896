/-! ===== as, door, count ===== -/
theorem for_acc {P : Mem → Int32 → Int32 → Prop} {M : Mem} {n : Nat} (g : Nat → Int32) (hexit : P M (g n) (nI n)) (hstep : ∀ i, i < n → P M (g (i + 1)) (nI (i + 1)) → P M (g i) (nI i)) : P M (g 0) 0 := by
  refine for_up (S := Int32) (P := fun s i => P M s i) (n := n) (fun i s => s = g i) (fun s hs => ?_) (fun i s hi hs ih => ?_) 0 (Nat.zero_le _) (g 0) rfl
  · subst hs; exact hexit
  · subst hs; exact hstep i hi (ih _ rfl)
def sumU (f : Nat → Int32) : Nat → Int32
  | 0 => 0
  | n + 1 => sumU f n + f n
theorem sp_paidDebts {Post : Int32 → Mem → Prop} {M : Mem} {o a b c d : Nat} (hC : CO M o a b c d) (hz : ∀ k, k < 4 → zb ((tvC M o).2.2 k)) (h : Post (sumU (tvC M o).2.2 d) M) : wp_X0_paidDebts Post M o := by
  intro P4 h4
  have hB := hC.2.2.2.2.1
  unfold BD at hB
  refine for_acc (P := P4) (n := d) (sumU (tvC M o).2.2) (h4 _ _ _ ⟨fun _ => h, fun z => absurd (by rw [hC.2.2.2.1]; exact Int32.le_refl _) z⟩) (fun i hi ih => h4 _ _ _ ⟨fun z => absurd z (by rw [hC.2.2.2.1]; exact le_n (by omega) hi), fun _ => ?_⟩)
  have n1 := cl4 (p := i) (by omega)
  have e : (tvC M o).2.2 i = rd M (o + 5) i := cut_lt (by omega)
  have hz := hz i (by omega)
  rw [n1]
  refine ⟨vp_in_nI (by omega) (by omega), fun z x1 hx1 x2 hx2 => ?_, fun z x1 hx1 x2 hx2 => ?_⟩
  · rw [hx1, hx2, nI_1]
    have : sumU (tvC M o).2.2 i + 0 = sumU (tvC M o).2.2 (i + 1) := by rw [sumU, e, z]
    rw [this]; exact ih
  · rw [hx1, hx2, nI_1]
    have : sumU (tvC M o).2.2 i + 1 = sumU (tvC M o).2.2 (i + 1) := by
      rw [sumU]
      rcases hz with hz | hz
      · exact absurd (e.symm.trans hz) z
      · rw [hz]
    rw [this]; exact ih
theorem sp_paidMany {Post : Int32 → Mem → Prop} {M : Mem} {q d : Nat} (h7 : rd M 29 7 = nI d) (hd : d ≤ 4) (h : Post (sumU (cut 4 (rd M q)) d) M) : wp_X12_paidMany Post M q 4 := by
  intro P4 h4
  refine for_acc (P := P4) (n := d) (sumU (cut 4 (rd M q))) (h4 _ _ _ ⟨fun _ => h, fun z => absurd (by rw [h7]; exact Int32.le_refl _) z⟩) (fun i hi ih => h4 _ _ _ ⟨fun z => absurd z (by rw [h7]; exact le_n (by omega) hi), fun _ => ?_⟩)
  have n1 := cl4 (p := i) (by omega)
  rw [n1]
  refine ⟨vp_in_nI (by omega) (by omega), fun x1 hx1 x2 hx2 => ?_⟩
  rw [hx1, hx2, nI_1]
  have : sumU (cut 4 (rd M q)) i + rd M q i = sumU (cut 4 (rd M q)) (i + 1) := by rw [sumU, cut_lt (by omega)]
  rw [this]; exact ih
def owU (H : Nat → Nat → Int32) (T : TV) : Nat → Int32 := sumU (fun k => if T.2.2 k = 0 then H 8 k else 0)
theorem sp_sumsNotPaid {Post : Int32 → Mem → Prop} {M : Mem} {o a b c d : Nat} (hC : CO M o a b c d) (h : Post (owU (stC M o) (tvC M o) d) M) : wp_X0_sumsNotPaid Post M o := by
  intro P4 h4
  have hB := hC.2.2.2.2.1
  unfold BD at hB
  refine for_acc (P := P4) (n := d) (owU (stC M o) (tvC M o)) (h4 _ _ _ ⟨fun _ => h, fun z => absurd (by rw [hC.2.2.2.1]; exact Int32.le_refl _) z⟩) (fun i hi ih => h4 _ _ _ ⟨fun z => absurd z (by rw [hC.2.2.2.1]; exact le_n (by omega) hi), fun _ => ?_⟩)
  have n1 := cl4 (p := i) (by omega)
  have e : (tvC M o).2.2 i = rd M (o + 5) i := cut_lt (by omega)
  have e8 : stC M o 8 i = rd M (o + 4) i := cut_lt (by omega)
  have v := vp_in_nI (n := i) (N := 4) (by omega) (by omega)
  rw [n1]
  refine ⟨v, fun z => ⟨v, fun x1 hx1 x2 hx2 => ?_⟩, fun z x1 hx1 x2 hx2 => ?_⟩
  · rw [hx1, hx2, nI_1]
    have : owU (stC M o) (tvC M o) i + rd M (o + 4) i = owU (stC M o) (tvC M o) (i + 1) := by unfold owU; rw [sumU, e, if_pos z, e8]
    rw [this]; exact ih
  · rw [hx1, hx2, nI_1]
    have : owU (stC M o) (tvC M o) i + 0 = owU (stC M o) (tvC M o) (i + 1) := by unfold owU; rw [sumU, e, if_neg z]
    rw [this]; exact ih
theorem sp_owedAll {Post : Int32 → Mem → Prop} {M : Mem} {a b c d : Nat} (hC : MO M a b c d) (h : Post (owU (stM M) (tvM M) d) M) : wp_X12_owedAll Post M := by
  intro P4 h4
  have hB := hC.2.2.2.2.1
  unfold BD at hB
  refine for_acc (P := P4) (n := d) (owU (stM M) (tvM M)) (h4 _ _ _ ⟨fun _ => h, fun z => absurd (by rw [hC.2.2.2.1]; exact Int32.le_refl _) z⟩) (fun i hi ih => h4 _ _ _ ⟨fun z => absurd z (by rw [hC.2.2.2.1]; exact le_n (by omega) hi), fun _ => ?_⟩)
  have n1 := cl4 (p := i) (by omega)
  have e : (tvM M).2.2 i = rd M 42 i := cut_lt (by omega)
  have e8 : stM M 8 i = rd M 41 i := cut_lt (by omega)
  have v := vp_in_nI (n := i) (N := 4) (by omega) (by omega)
  rw [n1]
  refine ⟨v, fun z x1 hx1 x2 hx2 => ?_, fun z => ⟨v, fun x1 hx1 x2 hx2 => ?_⟩⟩
  · rw [hx1, hx2, nI_1]
    have : owU (stM M) (tvM M) i + 0 = owU (stM M) (tvM M) (i + 1) := by unfold owU; rw [sumU, e, if_neg z]
    rw [this]; exact ih
  · rw [hx1, hx2, nI_1]
    have : owU (stM M) (tvM M) i + rd M 41 i = owU (stM M) (tvM M) (i + 1) := by unfold owU; rw [sumU, e, if_pos z, e8]
    rw [this]; exact ih
theorem sp_allPurses {Post : Int32 → Mem → Prop} {M : Mem} {o a b c d : Nat} (hC : CO M o a b c d) (h : Post (sumU (tvC M o).1 c) M) : wp_X0_allPurses Post M o := by
  intro P4 h4
  have hB := hC.2.2.2.2.1
  unfold BD at hB
  refine for_acc (P := P4) (n := c) (sumU (tvC M o).1) (h4 _ _ _ ⟨fun _ => h, fun z => absurd (by rw [hC.2.2.1]; exact Int32.le_refl _) z⟩) (fun i hi ih => h4 _ _ _ ⟨fun z => absurd z (by rw [hC.2.2.1]; exact le_n (by omega) hi), fun _ => ?_⟩)
  have n1 := cl4 (p := i) (by omega)
  have e : (tvC M o).1 i = rd M (o + 1) i := cut_lt (by omega)
  rw [n1]
  refine ⟨vp_in_nI (by omega) (by omega), fun x1 hx1 x2 hx2 => ?_⟩
  rw [hx1, hx2, nI_1]
  have : sumU (tvC M o).1 i + rd M (o + 1) i = sumU (tvC M o).1 (i + 1) := by rw [sumU, e]
  rw [this]; exact ih
theorem sp_pursesAll {Post : Int32 → Mem → Prop} {M : Mem} {a b c d : Nat} (hC : MO M a b c d) (h : Post (sumU (tvM M).1 c) M) : wp_X12_pursesAll Post M := by
  intro P4 h4
  have hB := hC.2.2.2.2.1
  unfold BD at hB
  refine for_acc (P := P4) (n := c) (sumU (tvM M).1) (h4 _ _ _ ⟨fun _ => h, fun z => absurd (by rw [hC.2.2.1]; exact Int32.le_refl _) z⟩) (fun i hi ih => h4 _ _ _ ⟨fun z => absurd z (by rw [hC.2.2.1]; exact le_n (by omega) hi), fun _ => ?_⟩)
  have n1 := cl4 (p := i) (by omega)
  have e : (tvM M).1 i = rd M 35 i := cut_lt (by omega)
  rw [n1]
  refine ⟨vp_in_nI (by omega) (by omega), fun x1 hx1 x2 hx2 => ?_⟩
  rw [hx1, hx2, nI_1]
  have : sumU (tvM M).1 i + rd M 35 i = sumU (tvM M).1 (i + 1) := by rw [sumU, e]
  rw [this]; exact ih
theorem ob_count {n : Nat} {M : Mem} (hI : Inv n M) (v : Int32) : OB (fun P M => wp_X11_count P M v) (fun P M => wp_X12_countOf P M v) M := by
  obtain ⟨a, b, c, d, hC, hM, hT⟩ := hI.both
  have hB := hC.2.2.2.2.1
  unfold BD at hB
  have hI2 := hI
  obtain ⟨h64, a', b', c', d', hc', hw', hr', ha', haw', -, -, hpg, hkp⟩ := hI2
  rw [arl] at ha'
  have z89 : (8 : Int32) - 8 = 0 := by decide
  have z99 : (9 : Int32) - 8 = 1 := by decide
  have go : ∀ r : Int32, (∀ (M1 : Mem) (P : Int32 → Mem → Prop), Fr M M1 → CO M1 59 a b c d → stC M1 59 = stM M → tvC M1 59 = tvM M → (∀ q, core q → ∀ j, rd M1 q j = rd M q j) → rd M1 1 1 = rd M 1 1 → P r M1 → wp_X11_count P M1 v) → (∀ (M1 : Mem) (P : Int32 → Mem → Prop), Fr M M1 → MO M1 a b c d → stM M1 = stM M → tvM M1 = tvM M → (∀ q, core q → ∀ j, rd M1 q j = rd M q j) → (∀ k, slots29 k → rd M1 29 k = rd M 29 k) → P r M1 → wp_X12_countOf P M1 v) → OB (fun P M => wp_X11_count P M v) (fun P M => wp_X12_countOf P M v) M := fun r h1 h2 => OB.one r (fun M1 P f h => h1 M1 P f (f.both hI hC hM).1 (f.cs hI) (f.ct hI) f.1 f.2.1 h) (fun M1 P f h => h2 M1 P f (f.both hI hC hM).2 f.st f.tv f.1 f.2.2 h)
  by_cases x0 : v = 0
  · subst x0
    refine go (nI a) (fun M1 P f g1 g2 g3 g4 g5 h => ?_) (fun M1 P f g1 g2 g3 g4 g5 h => ?_)
    · unfold wp_X11_count; simp; rw [g1.1]; exact h
    · unfold wp_X12_countOf; simp; rw [g1.1]; exact h
  by_cases x1 : v = 1
  · subst x1
    refine go (nI b) (fun M1 P f g1 g2 g3 g4 g5 h => ?_) (fun M1 P f g1 g2 g3 g4 g5 h => ?_)
    · unfold wp_X11_count; simp; rw [g1.2.1]; exact h
    · unfold wp_X12_countOf; simp; rw [g1.2.1]; exact h
  by_cases x2 : v = 2
  · subst x2
    refine go (nI c) (fun M1 P f g1 g2 g3 g4 g5 h => ?_) (fun M1 P f g1 g2 g3 g4 g5 h => ?_)
    · unfold wp_X11_count; simp; rw [g1.2.2.1]; exact h
    · unfold wp_X12_countOf; simp; rw [g1.2.2.1]; exact h
  by_cases x3 : v = 3
  · subst x3
    refine go (nI d) (fun M1 P f g1 g2 g3 g4 g5 h => ?_) (fun M1 P f g1 g2 g3 g4 g5 h => ?_)
    · unfold wp_X11_count; simp; rw [g1.2.2.2.1]; exact h
    · unfold wp_X12_countOf; simp; rw [g1.2.2.2.1]; exact h
  by_cases x4 : v = 4
  · subst x4
    refine go (sumU (tvM M).2.2 d) (fun M1 P f g1 g2 g3 g4 g5 h => ?_) (fun M1 P f g1 g2 g3 g4 g5 h => ?_)
    · unfold wp_X11_count; simp
      refine sp_paidDebts g1 (by rw [g3]; exact hT.2) ?_
      rw [g3]; exact h
    · unfold wp_X12_countOf; simp
      refine sp_paidMany g1.2.2.2.1 (by omega) ?_
      have : cut 4 (rd M1 42) = (tvM M).2.2 := congrArg (fun t => t.2.2) g3
      rw [this]; exact h
  by_cases x5 : v = 5
  · subst x5
    refine go (owU (stM M) (tvM M) d) (fun M1 P f g1 g2 g3 g4 g5 h => ?_) (fun M1 P f g1 g2 g3 g4 g5 h => ?_)
    · unfold wp_X11_count; simp
      refine sp_sumsNotPaid g1 ?_
      rw [g2, g3]; exact h
    · unfold wp_X12_countOf; simp
      refine sp_owedAll g1 ?_
      rw [g2, g3]; exact h
  by_cases x6 : v = 6
  · subst x6
    refine go (sumU (tvM M).1 c) (fun M1 P f g1 g2 g3 g4 g5 h => ?_) (fun M1 P f g1 g2 g3 g4 g5 h => ?_)
    · unfold wp_X11_count; simp
      refine sp_allPurses g1 ?_
      rw [g3]; exact h
    · unfold wp_X12_countOf; simp
      refine sp_pursesAll g1 ?_
      rw [g3]; exact h
  by_cases x7 : v = 7
  · subst x7
    refine go (rd M 29 8) (fun M1 P f g1 g2 g3 g4 g5 h => ?_) (fun M1 P f g1 g2 g3 g4 g5 h => ?_)
    · unfold wp_X11_count; simp; rw [g4 59 (by unfold core; omega), ha'.2.2.2.2.2.2.1]; exact h
    · unfold wp_X12_countOf; simp; rw [g5 8 (by unfold slots29; omega)]; exact h
  have c3 : (rd M 3 2 = 0 ↔ c = 0) := by rw [hC.2.2.1]; exact ⟨fun z => (nI_eq (b := 0) (by omega) (by omega)).mp z, fun z => by rw [z]; rfl⟩
  have c29 : (rd M 29 6 = 0 ↔ c = 0) := by rw [hM.2.2.1]; exact ⟨fun z => (nI_eq (b := 0) (by omega) (by omega)).mp z, fun z => by rw [z]; rfl⟩
  by_cases x8 : v = 8
  · subst x8
    by_cases hc0 : c = 0
    · refine go (-1) (fun M1 P f g1 g2 g3 g4 g5 h => ?_) (fun M1 P f g1 g2 g3 g4 g5 h => ?_)
      · unfold wp_X11_count; simp; rw [g4 3 (by unfold core; omega)]; simp [c3.mpr hc0, h]
      · unfold wp_X12_countOf; simp; rw [eq_lacks, g5 6 (by unfold slots29; omega), if_pos (c29.mpr hc0)]; simp [h]
    · refine go (rd M 37 0) (fun M1 P f g1 g2 g3 g4 g5 h => ?_) (fun M1 P f g1 g2 g3 g4 g5 h => ?_)
      · unfold wp_X11_count; simp; rw [g4 3 (by unfold core; omega), g4 62 (by unfold core; omega), ha'.2.2.1 0]; simp [c3, hc0, h, in0_2]
      · unfold wp_X12_countOf; simp; rw [eq_lacks, g5 6 (by unfold slots29; omega), if_neg (fun z => hc0 (c29.mp z)), g4 37 (by unfold core; omega)]; simp [h, in0_2]
  by_cases x9 : v = 9
  · subst x9
    by_cases hc0 : c = 0
    · refine go (-1) (fun M1 P f g1 g2 g3 g4 g5 h => ?_) (fun M1 P f g1 g2 g3 g4 g5 h => ?_)
      · unfold wp_X11_count; simp; rw [g4 3 (by unfold core; omega)]; simp [c3.mpr hc0, h]
      · unfold wp_X12_countOf; simp; rw [eq_lacks, g5 6 (by unfold slots29; omega), if_pos (c29.mpr hc0)]; simp [h]
    · refine go (rd M 37 1) (fun M1 P f g1 g2 g3 g4 g5 h => ?_) (fun M1 P f g1 g2 g3 g4 g5 h => ?_)
      · unfold wp_X11_count; simp; rw [g4 3 (by unfold core; omega), g4 62 (by unfold core; omega), ha'.2.2.1 1]; simp [c3, hc0, h, in1_2]
      · unfold wp_X12_countOf; simp; rw [eq_lacks, g5 6 (by unfold slots29; omega), if_neg (fun z => hc0 (c29.mp z)), g4 37 (by unfold core; omega)]; simp [h, in1_2]
  by_cases x10 : v = 10
  · subst x10
    refine go (rd M 29 31) (fun M1 P f g1 g2 g3 g4 g5 h => ?_) (fun M1 P f g1 g2 g3 g4 g5 h => ?_)
    · unfold wp_X11_count; simp; rw [g4 59 (by unfold core; omega), ha'.2.2.2.2.2.1]; exact h
    · unfold wp_X12_countOf; simp; rw [g5 31 (by unfold slots29; omega)]; exact h
  by_cases x11 : v = 11
  · subst x11
    obtain ⟨l, l1, l2, l3, -⟩ := hpg
    refine go (nI l) (fun M1 P f g1 g2 g3 g4 g5 h => ?_) (fun M1 P f g1 g2 g3 g4 g5 h => ?_)
    · unfold wp_X11_count; simp; rw [g5, l2]; exact h
    · unfold wp_X12_countOf; simp; rw [g5 1 (by unfold slots29; omega), l3]; exact h
  by_cases x12 : v = 12
  · subst x12
    obtain ⟨k, k1, k2, k3, -⟩ := hkp
    refine go (nI k) (fun M1 P f g1 g2 g3 g4 g5 h => ?_) (fun M1 P f g1 g2 g3 g4 g5 h => ?_)
    · unfold wp_X11_count; simp; rw [g4 0 (by unfold core; omega), k2]; exact h
    · unfold wp_X12_countOf; simp; rw [g5 9 (by unfold slots29; omega), k3]; exact h
  refine go (-102) (fun M1 P f g1 g2 g3 g4 g5 h => ?_) (fun M1 P f g1 g2 g3 g4 g5 h => ?_)
  · unfold wp_X11_count; simp [x0, x1, x2, x3, x4, x5, x6, x7, x8, x9, x10, x11, x12, h]
  · unfold wp_X12_countOf; simp [x0, x1, x2, x3, x4, x5, x6, x7, x8, x9, x10, x11, x12, h]
theorem ob_door {n : Nat} {M : Mem} (hI : Inv n M) {a b c d : Nat} (hC : CO M 59 a b c d) (hM : MO M a b c d) {k : Nat} (hk : k < b) (v2 : Int32) : OB (fun P M => wp_X11_door P M (nI k) v2) (fun P M => wp_X12_tellDoor P M (nI k) v2) M := by
  have hB := hC.2.2.2.2.1
  unfold BD at hB
  have n1 := cl4 (p := k) (by omega)
  have v6 : vp_in (nI k) 6 = True := in_n (by omega) (by omega)
  have vd : vp_in (nI k) b = True := in_n hk (by omega)
  have key : ∀ r : Int32, (v2 = 0 → r = stM M 0 k) → (v2 = 1 → r = stM M 1 k) → (v2 = 2 → r = stM M 2 k) → (¬ v2 = 0 → ¬ v2 = 1 → ¬ v2 = 2 → r = -102) → OB (fun P M => wp_X11_door P M (nI k) v2) (fun P M => wp_X12_tellDoor P M (nI k) v2) M := by
    intro r e0 e1 e2 e3
    refine OB.one r (fun M1 P f h => ?_) (fun M1 P f h => ?_)
    · have hC1 := (f.both hI hC hM).1
      have hs := f.cs hI
      have r4 : rd M1 4 k = stM M 0 k := congrFun (congrFun hs 0) k
      have r5 : rd M1 5 k = stM M 1 k := congrFun (congrFun hs 1) k
      have r6 : rd M1 6 k = stM M 2 k := congrFun (congrFun hs 2) k
      unfold wp_X11_door
      rw [eq_isNoDoor hC1.2.1 (by omega)]
      refine ⟨fun _ => ⟨fun _ => ?_, fun z => absurd rfl z⟩, fun z => absurd (vd ▸ trivial) z⟩
      simp only [n1, v6, true_and, r4, r5, r6]
      exact ⟨fun z => e0 z ▸ h, fun z => e1 z ▸ h, fun z => e2 z ▸ h, fun z1 z2 z3 => e3 z1 z2 z3 ▸ h⟩
    · have hs := f.st
      have r4 : rd M1 31 k = stM M 0 k := congrFun (congrFun hs 0) k
      have r5 : rd M1 32 k = stM M 1 k := congrFun (congrFun hs 1) k
      have r6 : rd M1 33 k = stM M 2 k := congrFun (congrFun hs 2) k
      unfold wp_X12_tellDoor
      simp only [n1, v6, true_and, r4, r5, r6]
      exact ⟨fun z => e0 z ▸ h, fun z => e1 z ▸ h, fun z => e2 z ▸ h, fun z1 z2 z3 => e3 z1 z2 z3 ▸ h⟩
  by_cases x0 : v2 = 0
  · exact key _ (fun _ => rfl) (fun z => absurd (x0.symm.trans z) (by decide)) (fun z => absurd (x0.symm.trans z) (by decide)) (fun z => absurd x0 z)
  by_cases x1 : v2 = 1
  · exact key _ (fun z => absurd z x0) (fun _ => rfl) (fun z => absurd (x1.symm.trans z) (by decide)) (fun _ z => absurd x1 z)
  by_cases x2 : v2 = 2
  · exact key _ (fun z => absurd z x0) (fun z => absurd z x1) (fun _ => rfl) (fun _ _ z => absurd x2 z)
  · exact key _ (fun z => absurd z x0) (fun z => absurd z x1) (fun z => absurd z x2) (fun _ _ _ => rfl)
