theorem op_restore {n : Nat} {M : Mem} {K : Mem → Prop} (hI : Inv n M) (hK : ∀ M', Inv n M' → K M') : wp_X11_restore (fun r M1 => wp_X12_restore (fun r' M2 => (r = r' → K M2) ∧ (¬ r = r' → False)) M1) M := by
  have hI2 := hI
  obtain ⟨h64, a, b, c, d, hc, hw, hr, ha, haw, hkr, hkw, -, hkp⟩ := hI2
  have hkI := hK M hI
  obtain ⟨k, k1, k2, k3, k4⟩ := hkp
  unfold wp_X11_restore
  rcases k4 with ⟨k5, k6⟩ | ⟨k5, k6⟩
  · have hkw := hkw k5
    have z8 : ¬ rd M 0 8 = 0 := by rw [k5]; decide
    refine ⟨fun _ => ?_, fun z => absurd z z8⟩
    refine sp_takeOver (by omega) (fun j hj => hkw.2.2.2.1 j hj) (fun j hj => hkw.2.2.2.2.2.1 j hj) (fun M1 t => ?_)
    have ta := fun {a c d} (hc : c ≤ 4) (hd : d ≤ 4) (e : AW M 67 a c d) => tk_aw t hc hd e
    obtain ⟨t0, t1, t2, t3, t4, t5, t6, t7, t8, t9, -⟩ := t
    unfold wp_X12_restore
    refine ⟨fun _ => ?_, fun z => absurd (by rw [t0 29 (by omega), t0 29 (by omega), k6, k3]) z⟩
    refine sp_copy (by omega) (by omega) (fun N1 u1 w1 _ => ?_)
    refine sp_copy (by omega) (by omega) (fun N2 u2 w2 _ => ?_)
    refine sp_copy (by omega) (by omega) (fun N3 u3 w3 _ => ?_)
    refine sp_copy (by omega) (by omega) (fun N4 u4 w4 _ => ?_)
    refine sp_copy (by omega) (by omega) (fun N5 u5 w5 _ => ?_)
    refine sp_copy (by omega) (by omega) (fun N6 u6 w6 _ => ?_)
    rintro L1 rfl L2 rfl
    have all : ∀ q, q ≠ 35 → q ≠ 36 → q ≠ 37 → q ≠ 41 → q ≠ 42 → q ≠ 52 → ∀ j, rd N6 q j = rd M1 q j := fun q h1 h2 h3 h4 h5 h6 j => by
      rw [u6 q h6, u5 q h5, u4 q h4, u3 q h3, u2 q h2, u1 q h1]
    have old : ∀ q, q ≠ 35 → q ≠ 36 → q ≠ 37 → q ≠ 41 → q ≠ 42 → q ≠ 52 → ¬ (59 ≤ q ∧ q ≤ 66) → ∀ j, rd N6 q j = rd M q j := fun q h1 h2 h3 h4 h5 h6 h7 j => by
      rw [all q h1 h2 h3 h4 h5 h6, t0 q (by omega)]
    have o29 : ∀ k, rd N6 29 k = rd M 29 k := old 29 (by omega) (by omega) (by omega) (by omega) (by omega) (by omega) (by omega)
    have k35 : ∀ j, rd N6 35 j = if j < 4 then rd M 53 j else rd M 35 j := fun j => by
      rw [u6 35 (by omega), u5 35 (by omega), u4 35 (by omega), u3 35 (by omega), u2 35 (by omega), w1 j, t0 35 (by omega), t0 53 (by omega)]
    have k36 : ∀ j, rd N6 36 j = if j < 4 then rd M 54 j else rd M 36 j := fun j => by
      rw [u6 36 (by omega), u5 36 (by omega), u4 36 (by omega), u3 36 (by omega), w2 j, u1 36 (by omega), u1 54 (by omega), t0 36 (by omega), t0 54 (by omega)]
    have k37 : ∀ j, rd N6 37 j = if j < 2 then rd M 55 j else rd M 37 j := fun j => by
      rw [u6 37 (by omega), u5 37 (by omega), u4 37 (by omega), w3 j, u2 37 (by omega), u2 55 (by omega), u1 37 (by omega), u1 55 (by omega), t0 37 (by omega), t0 55 (by omega)]
    have k41 : ∀ j, rd N6 41 j = if j < 4 then rd M 56 j else rd M 41 j := fun j => by
      rw [u6 41 (by omega), u5 41 (by omega), w4 j, u3 41 (by omega), u3 56 (by omega), u2 41 (by omega), u2 56 (by omega), u1 41 (by omega), u1 56 (by omega), t0 41 (by omega), t0 56 (by omega)]
    have k42 : ∀ j, rd N6 42 j = if j < 4 then rd M 57 j else rd M 42 j := fun j => by
      rw [u6 42 (by omega), w5 j, u4 42 (by omega), u4 57 (by omega), u3 42 (by omega), u3 57 (by omega), u2 42 (by omega), u2 57 (by omega), u1 42 (by omega), u1 57 (by omega), t0 42 (by omega), t0 57 (by omega)]
    have k52 : ∀ j, j < 12 → rd N6 52 j = rd M 58 j := fun j hj => by
      rw [w6 j, if_pos hj, u5 58 (by omega), u4 58 (by omega), u3 58 (by omega), u2 58 (by omega), u1 58 (by omega), t0 58 (by omega)]
    have aff : ∀ q, 59 ≤ q → q ≤ 66 → ∀ j, rd N6 q j = rd M1 q j := fun q h1 h2 j => all q (by omega) (by omega) (by omega) (by omega) (by omega) (by omega) j
    obtain ⟨g1, g2, g3, g4, g5, g6, g7, g8⟩ := hkr
    refine fin_eq ?_ (hK _ (hI.now (fun q hq h1 h2 h3 h4 h5 h6 h7 j => ?_) ?_ (fun k hk1 hk2 hk3 => ?_) (fun e => ?_) (fun a2 b2 c2 d2 q1 q2 e => ?_)))
    · rw [wr_k _ (by omega), wr_s, o29, t9]; exact g7
    · have hq29 : q ≠ 29 := fun z => by subst z; unfold core at hq; omega
      rw [wr_n hq29, wr_n hq29]; exact old q h2 h3 h4 h5 h6 h7 h1 j
    · rw [wr_n (by omega), wr_n (by omega)]; exact old 1 (by omega) (by omega) (by omega) (by omega) (by omega) (by omega) (by omega) 1
    · rw [wr_k _ hk2, wr_k _ hk3]; exact o29 k
    · rw [arl] at e ⊢
      obtain ⟨f1, f2, f3, f4, f5, f6, f7, f8⟩ := e
      have nx : ∀ q, q ≠ 29 → ∀ j, rd (wr (wr N6 29 8 (rd N6 29 35)) 29 31 (rd (wr N6 29 8 (rd N6 29 35)) 29 36)) q j = rd N6 q j := fun q hq j => by rw [wr_n hq, wr_n hq]
      refine ⟨fun j => ?_, fun j => ?_, fun j => ?_, fun j => ?_, fun j => ?_, ?_, ?_, fun j hj => ?_⟩
      · rw [nx 60 (by omega), nx 35 (by omega), aff 60 (by omega) (by omega), t1 j, k35 j]; exact if_cc (fun _ => g1 j) (fun _ => f1 j)
      · rw [nx 61 (by omega), nx 36 (by omega), aff 61 (by omega) (by omega), t2 j, k36 j]; exact if_cc (fun _ => g2 j) (fun _ => f2 j)
      · rw [nx 62 (by omega), nx 37 (by omega), aff 62 (by omega) (by omega), t3 j, k37 j]; exact if_cc (fun _ => g3 j) (fun _ => f3 j)
      · rw [nx 63 (by omega), nx 41 (by omega), aff 63 (by omega) (by omega), t4 j, k41 j]; exact if_cc (fun _ => g4 j) (fun _ => f4 j)
      · rw [nx 64 (by omega), nx 42 (by omega), aff 64 (by omega) (by omega), t5 j, k42 j]; exact if_cc (fun _ => g5 j) (fun _ => f5 j)
      · rw [nx 59 (by omega), aff 59 (by omega) (by omega), t8, wr_s, wr_k _ (by omega), o29]; exact g6
      · rw [nx 59 (by omega), aff 59 (by omega) (by omega), t9, wr_k _ (by omega), wr_s, o29]; exact g7
      · have g := g8 j hj
        rw [nx 65 (by omega), nx 66 (by omega), nx 52 (by omega), nx 52 (by omega), aff 65 (by omega) (by omega), aff 66 (by omega) (by omega), t6 j, t7 j, if_pos hj, if_pos hj, k52 (2 * j) (by omega), k52 (2 * j + 1) (by omega)]
        exact g
    · have ea : a2 = a := (nI_eq (by have := q1.2.2.2.2.2.2.2.2.1; omega) (by have := hc.2.2.2.2.2.2.2.2.1; omega)).mp (q1.1.symm.trans hc.1)
      have ec : c2 = c := (nI_eq (by have := q1.2.2.2.2.2.2.2.2.2.2.1; omega) (by have := hc.2.2.2.2.2.2.2.2.2.2.1; omega)).mp (q1.2.2.1.symm.trans hc.2.2.1)
      have ed : d2 = d := (nI_eq (by have := q1.2.2.2.2.2.2.2.2.2.2.2.1; omega) (by have := hc.2.2.2.2.2.2.2.2.2.2.2.1; omega)).mp (q1.2.2.2.1.symm.trans hc.2.2.2.1)
      subst ea ec ed
      have e2 := ta (q1.2.2.2.2.2.2.2.2.2.2.1) (q1.2.2.2.2.2.2.2.2.2.2.2.1) hkw
      refine aw_congr (fun i hi j => ?_) e2
      rw [wr_n (by omega), wr_n (by omega)]
      exact aff (59 + i) (by omega) (by omega) j
  · have ne : ¬ rd M 29 34 = rd M 29 9 := by
      rw [k3]
      rcases k6 with k6 | ⟨j, hj, k6⟩
      · rw [k6]; exact fun z => nI_nm1 (x := k) (by omega) z.symm
      · rw [k6]; exact fun z => absurd ((nI_eq (by omega) (by omega)).mp z) (by omega)
    unfold wp_X12_restore
    exact ⟨fun z => absurd k5 z, fun _ => ⟨fun z => absurd z ne, fun _ => fin_eq rfl hkI⟩⟩
/-! ===== what observes alone ===== -/
theorem Fr.both {n : Nat} {M M1 : Mem} (f : Fr M M1) (hI : Inv n M) {a b c d : Nat} (hC : CO M 59 a b c d) (hM : MO M a b c d) : CO M1 59 a b c d ∧ MO M1 a b c d := by
  have h1 := (f.inv hI).st
  have e3 := f.1 3 (by unfold core; omega)
  have s4 := f.2.2 4 (by unfold slots29; omega)
  have s5 := f.2.2 5 (by unfold slots29; omega)
  have s6 := f.2.2 6 (by unfold slots29; omega)
  have s7 := f.2.2 7 (by unfold slots29; omega)
  unfold CO MO at *
  rw [e3, e3, e3, e3, s4, s5, s6, s7, h1, f.st]
  rw [hI.st] at hC
  exact ⟨hC, hM⟩
theorem OB.mdl {cls mdl mdl' : (Int32 → Mem → Prop) → Mem → Prop} {M : Mem} (h : OB cls mdl M) (hh : ∀ (M1 : Mem) (P : Int32 → Mem → Prop), Fr M M1 → mdl P M1 → mdl' P M1) : OB cls mdl' M := by
  obtain ⟨r, h1, h2⟩ := h
  exact ⟨r, h1, fun M1 P f g => hh M1 P f (h2 M1 P f g)⟩
/-- the class's rows, seen from the model's at the beginning -/
theorem Fr.cs {n : Nat} {M M1 : Mem} (f : Fr M M1) (hI : Inv n M) : stC M1 59 = stM M := by rw [(f.inv hI).st, f.st]
theorem Fr.ct {n : Nat} {M M1 : Mem} (f : Fr M M1) (hI : Inv n M) : tvC M1 59 = tvM M := by rw [(f.inv hI).tv, f.tv]
theorem zb_c {x : Int32} (h : zb x) {P : Int32 → Prop} : (x = 0 → P 0) ∧ (¬ x = 0 → P 1) ↔ P x := by
  rcases h with rfl | rfl
  · exact ⟨fun z => z.1 rfl, fun z => ⟨fun _ => z, fun y => absurd rfl y⟩⟩
  · exact ⟨fun z => z.2 (by decide), fun z => ⟨fun y => absurd y (by decide), fun _ => z⟩⟩
theorem ob_debt {n : Nat} {M : Mem} (hI : Inv n M) {a b c d : Nat} (hC : CO M 59 a b c d) (hM : MO M a b c d) (hT : TOK (tvM M) a c) {k : Nat} (hk : k < d) (v2 : Int32) : OB (fun P M => wp_X11_debt P M (nI k) v2) (fun P M => wp_X12_tellDebt P M (nI k) v2) M := by
  have hB := hC.2.2.2.2.1
  unfold BD at hB
  have n1 := cl4 (p := k) (by omega)
  have v4 : vp_in (nI k) 4 = True := in_n (by omega) (by omega)
  have vd : vp_in (nI k) d = True := in_n hk (by omega)
  have cls : ∀ (M1 : Mem) (P : Int32 → Mem → Prop), Fr M M1 → ((v2 = 0 → P (stM M 5 k) M1) ∧ (v2 = 1 → P (stM M 6 k) M1) ∧ (v2 = 2 → P (stM M 7 k) M1) ∧ (v2 = 3 → P (stM M 8 k) M1) ∧ (v2 = 4 → P (cosH (stM M) k) M1) ∧ (v2 = 5 → P ((tvM M).2.2 k) M1) ∧ (¬ v2 = 0 → ¬ v2 = 1 → ¬ v2 = 2 → ¬ v2 = 3 → ¬ v2 = 4 → ¬ v2 = 5 → P (-102) M1)) → wp_X11_debt P M1 (nI k) v2 := by
    intro M1 P f h
    obtain ⟨g0, g1, g2, g3, g4, g5, g6⟩ := h
    have hC1 := (f.both hI hC hM).1
    have hs := f.cs hI
    have ht := f.ct hI
    have r8 : rd M1 8 k = stM M 5 k := congrFun (congrFun hs 5) k
    have r9 : rd M1 9 k = stM M 6 k := congrFun (congrFun hs 6) k
    have r10 : rd M1 10 k = stM M 7 k := congrFun (congrFun hs 7) k
    have r63 : rd M1 63 k = stM M 8 k := by rw [← hs]; exact (cut_lt (by omega)).symm
    have r64 : rd M1 64 k = (tvM M).2.2 k := by rw [← ht]; exact (cut_lt (by omega)).symm
    unfold wp_X11_debt
    rw [eq_isNoDebt hC1.2.2.2.1 (by omega)]
    refine ⟨fun _ => ⟨fun _ => ?_, fun z => absurd rfl z⟩, fun z => absurd (vd ▸ trivial) z⟩
    simp only [n1, v4, true_and, r8, r9, r10, r63, r64, eqc_cost hC1 hk, hs]
    exact ⟨g0, g1, g2, g3, g4, fun z => (zb_c (hT.2 k (by omega)) (P := fun x => P x M1)).mpr (g5 z), g6⟩
  have mdl : ∀ (M1 : Mem) (P : Int32 → Mem → Prop), Fr M M1 → ((v2 = 0 → P (stM M 5 k) M1) ∧ (v2 = 1 → P (stM M 6 k) M1) ∧ (v2 = 2 → P (stM M 7 k) M1) ∧ (v2 = 3 → P (stM M 8 k) M1) ∧ (v2 = 4 → P (cosH (stM M) k) M1) ∧ (v2 = 5 → P ((tvM M).2.2 k) M1) ∧ (¬ v2 = 0 → ¬ v2 = 1 → ¬ v2 = 2 → ¬ v2 = 3 → ¬ v2 = 4 → ¬ v2 = 5 → P (-102) M1)) → wp_X12_tellDebt P M1 (nI k) v2 := by
    intro M1 P f h
    have hM1 := (f.both hI hC hM).2
    have hs := f.st
    have ht := f.tv
    have r8 : rd M1 38 k = stM M 5 k := congrFun (congrFun hs 5) k
    have r9 : rd M1 39 k = stM M 6 k := congrFun (congrFun hs 6) k
    have r10 : rd M1 40 k = stM M 7 k := congrFun (congrFun hs 7) k
    have r63 : rd M1 41 k = stM M 8 k := by rw [← hs]; exact (cut_lt (by omega)).symm
    have r64 : rd M1 42 k = (tvM M).2.2 k := by rw [← ht]; exact (cut_lt (by omega)).symm
    unfold wp_X12_tellDebt
    simp only [n1, v4, true_and, r8, r9, r10, r63, r64, eqm_cost hM1 hk, hs]
    exact h
  have go : ∀ r : Int32, (∀ (M1 : Mem) (P : Int32 → Mem → Prop), P r M1 → ((v2 = 0 → P (stM M 5 k) M1) ∧ (v2 = 1 → P (stM M 6 k) M1) ∧ (v2 = 2 → P (stM M 7 k) M1) ∧ (v2 = 3 → P (stM M 8 k) M1) ∧ (v2 = 4 → P (cosH (stM M) k) M1) ∧ (v2 = 5 → P ((tvM M).2.2 k) M1) ∧ (¬ v2 = 0 → ¬ v2 = 1 → ¬ v2 = 2 → ¬ v2 = 3 → ¬ v2 = 4 → ¬ v2 = 5 → P (-102) M1))) → OB (fun P M => wp_X11_debt P M (nI k) v2) (fun P M => wp_X12_tellDebt P M (nI k) v2) M := fun r hr => OB.one r (fun M1 P f h => cls M1 P f (hr M1 P h)) (fun M1 P f h => mdl M1 P f (hr M1 P h))
  by_cases x0 : v2 = 0
  · refine go (stM M 5 k) (fun M1 P h => ?_)
    subst x0
    simp [h]
  by_cases x1 : v2 = 1
  · refine go (stM M 6 k) (fun M1 P h => ?_)
    subst x1
    simp [h]
  by_cases x2 : v2 = 2
  · refine go (stM M 7 k) (fun M1 P h => ?_)
    subst x2
    simp [h]
  by_cases x3 : v2 = 3
  · refine go (stM M 8 k) (fun M1 P h => ?_)
    subst x3
    simp [h]
  by_cases x4 : v2 = 4
  · refine go (cosH (stM M) k) (fun M1 P h => ?_)
    subst x4
    simp [h]
  by_cases x5 : v2 = 5
  · refine go ((tvM M).2.2 k) (fun M1 P h => ?_)
    subst x5
    simp [h]
  · exact go (-102) (fun M1 P h => by simp [h, x0, x1, x2, x3, x4, x5])
theorem ob_debt' {n : Nat} {M : Mem} (hI : Inv n M) (v1 v2 : Int32) : OB (fun P M => wp_X11_debt P M v1 v2) (fun P M => wp_X12_debt P M v1 v2) M := by
  obtain ⟨a, b, c, d, hC, hM, hT⟩ := hI.both
  have hB := hC.2.2.2.2.1
  unfold BD at hB
  by_cases hd : vp_in v1 d
  · obtain ⟨k, hk, rfl⟩ := vp_ex hd (by omega)
    refine (ob_debt hI hC hM hT hk v2).mdl (fun M1 P f h => ?_)
    have hM1 := (f.both hI hC hM).2
    unfold wp_X12_debt
    rw [eq_isDebt hM1.2.2.2.1 (by omega)]
    exact ⟨fun _ => ⟨fun z => absurd z (by decide), fun _ => h⟩, fun z => absurd hd z⟩
  · refine OB.one (-101) (fun M1 P f h => ?_) (fun M1 P f h => ?_)
    · have hC1 := (f.both hI hC hM).1
      unfold wp_X11_debt
      rw [eq_isNoDebt hC1.2.2.2.1 (by omega)]
      exact ⟨fun z => absurd z hd, fun _ => ⟨fun z => absurd z (by decide), fun _ => h⟩⟩
    · have hM1 := (f.both hI hC hM).2
      unfold wp_X12_debt
      rw [eq_isDebt hM1.2.2.2.1 (by omega)]
      exact ⟨fun z => absurd z hd, fun _ => ⟨fun _ => h, fun z => absurd rfl z⟩⟩
