/-! ===== pay, and what is told ===== -/
theorem st_of {M M' : Mem} (f : ∀ q, (31 ≤ q ∧ q ≤ 34 ∨ 37 ≤ q ∧ q ≤ 41) → ∀ j, rd M' q j = rd M q j) : stM M' = stM M := by
  funext i
  match i with
  | 0 => exact funext (f 31 (by omega))
  | 1 => exact funext (f 32 (by omega))
  | 2 => exact funext (f 33 (by omega))
  | 3 => exact cut_ext (fun p hp => f 34 (by omega) p)
  | 4 => exact cut_ext (fun p hp => f 37 (by omega) p)
  | 5 => exact funext (f 38 (by omega))
  | 6 => exact funext (f 39 (by omega))
  | 7 => exact funext (f 40 (by omega))
  | k + 8 => exact cut_ext (fun p hp => f 41 (by omega) p)
theorem op_pay {n : Nat} {M : Mem} {v1 : Int32} {A : Prop} {K : Mem → Prop} (hI : Inv n M) (hK : ∀ M', Inv n M' → K M') (hA : A) : wp_X11_pay (fun r M1 => A ∧ wp_X12_pay (fun r' M2 => (r = r' → K M2) ∧ (¬ r = r' → False)) M1 v1) M v1 := by
  obtain ⟨a, b, c, d, hC, hM, hT⟩ := hI.both
  have hB := hC.2.2.2.2.1
  unfold BD at hB
  have hs := hI.st
  have ht := hI.tv
  unfold wp_X11_pay
  rw [eq_isNoDebt hC.2.2.2.1 (by omega)]
  by_cases hd : vp_in v1 d
  · obtain ⟨k, hk, rfl⟩ := vp_ex hd (by omega)
    obtain ⟨x, y, z, hx, hy, hxy, -, e5, e6, e7⟩ := hC.2.2.2.2.2.2.2.2.1 k hk
    have e5 : rd M 8 k = nI x := e5
    have e38 : rd M 38 k = nI x := by rw [← e5]; exact (congrFun (congrFun hs 5) k).symm
    have n1 := cl4 (p := k) (by omega)
    have n2 := cl4 (p := x) (by omega)
    have v4 : vp_in (nI k) 4 := vp_in_nI (by omega) (by omega)
    have vx : vp_in (nI x) 4 := vp_in_nI (by omega) (by omega)
    refine ⟨fun _ => ⟨fun _ => ?_, fun z => absurd rfl z⟩, fun z => absurd hd z⟩
    rw [eqc_may hC hk, hs, ht]
    by_cases hm : mayB (stM M) (tvM M) k = true
    · rw [if_pos hm]
      refine ⟨fun _ => ?_, fun z => absurd z (by decide)⟩
      refine sp_settle hC hk (fun M1 f1 g1 => ?_)
      have f1' : ∀ q, q ≠ 60 → q ≠ 64 → ∀ j, rd M1 q j = rd M q j := f1.1
      have s1 : stM M1 = stM M := st_of (fun q hq j => f1' q (by omega) (by omega) j)
      have t1 : tvM M1 = tvM M := tv_ext (cut_ext fun j _ => f1' 35 (by omega) (by omega) j) (cut_ext fun j _ => f1' 36 (by omega) (by omega) j) (cut_ext fun j _ => f1' 42 (by omega) (by omega) j)
      have hM1 : MO M1 a b c d := by
        unfold MO at hM ⊢
        have e := f1' 29 (by omega) (by omega)
        rw [e, e, e, e, s1]
        exact hM
      rw [n1, f1' 8 (by omega) (by omega), e5, n2]
      refine ⟨v4, vx, hA, ?_⟩
      unfold wp_X12_pay
      rw [eq_isDebt hM1.2.2.2.1 (by omega)]
      refine ⟨fun _ => ⟨fun _ => ?_, fun z => absurd z (by decide)⟩, fun z => absurd hd z⟩
      refine sp_begin (fun M2 f2 g2 => ?_)
      rw [eqm_may (f2.mo hM1) hk, f2.st, g2, s1, t1, if_pos hm]
      refine ⟨fun _ => ?_, fun z => absurd z (by decide)⟩
      refine sp_payThen (f2.mo hM1) hk (fun M3 f3 g3 => ?_)
      rw [f2.st, g2, s1, t1] at g3
      rw [hs, ht] at g1
      refine sp_copy (by omega) (by omega) (fun M4 u4 w4 _ => ?_)
      refine sp_copy (by omega) (by omega) (fun M5 u5 w5 _ => ?_)
      have e : tvC M1 59 = tvT M3 := by rw [g1, g3]
      have all : ∀ q, q ≠ 35 → q ≠ 42 → q ≠ 43 → q ≠ 44 → q ≠ 45 → ∀ j, rd M5 q j = rd M1 q j := fun q h1 h2 h3 h4 h5 j => by
        rw [u5 q h2, u4 q h1, f3.1 q h3 h4 h5, f2.1 q h3 h4 h5]
      have old : ∀ q, q ≠ 35 → q ≠ 42 → q ≠ 43 → q ≠ 44 → q ≠ 45 → q ≠ 60 → q ≠ 64 → ∀ j, rd M5 q j = rd M q j := fun q h1 h2 h3 h4 h5 h6 h7 j => by
        rw [all q h1 h2 h3 h4 h5, f1' q h6 h7]
      have a1 := hI.2
      obtain ⟨a', b', c', d', hc', hw', hr', ha', haw', -⟩ := a1
      rw [arl] at ha'
      have p60 : ∀ j, rd M5 60 j = rd M5 35 j := fun j => by
        rw [all 60 (by omega) (by omega) (by omega) (by omega) (by omega), u5 35 (by omega), w4 j]
        by_cases hj : j < 4
        · rw [if_pos hj]
          have g : cut 4 (rd M1 (59 + 1)) j = cut 4 (rd M3 43) j := congrFun (congrArg Prod.fst e) j
          rw [cut_lt hj, cut_lt hj] at g
          exact g
        · rw [if_neg hj, f3.1 35 (by omega) (by omega) (by omega), f2.1 35 (by omega) (by omega) (by omega), f1' 35 (by omega) (by omega), f1.2.1 60 j (by omega)]
          exact ha'.1 j
      have p64 : ∀ j, rd M5 64 j = rd M5 42 j := fun j => by
        rw [all 64 (by omega) (by omega) (by omega) (by omega) (by omega), w5 j]
        by_cases hj : j < 4
        · rw [if_pos hj, u4 45 (by omega)]
          have g : cut 4 (rd M1 (59 + 5)) j = cut 4 (rd M3 45) j := congrFun (congrArg (fun t => t.2.2) e) j
          rw [cut_lt hj, cut_lt hj] at g
          exact g
        · rw [if_neg hj, u4 42 (by omega), f3.1 42 (by omega) (by omega) (by omega), f2.1 42 (by omega) (by omega) (by omega), f1' 42 (by omega) (by omega), f1.2.1 64 j (by omega)]
          exact ha'.2.2.2.2.1 j
      have z64 : ∀ j, j < 4 → zb (rd M5 64 j) := fun j hj => by
        rw [all 64 (by omega) (by omega) (by omega) (by omega) (by omega)]
        have g : cut 4 (rd M1 (59 + 5)) j = if j = k then 1 else cut 4 (rd M 42) j := congrFun (congrArg (fun t => t.2.2) g1) j
        rw [cut_lt hj, cut_lt hj] at g
        have g : rd M1 64 j = if j = k then 1 else rd M 42 j := g
        rw [g]
        by_cases hjk : j = k
        · rw [if_pos hjk]; exact Or.inr rfl
        · rw [if_neg hjk]
          have := hT.2 j hj
          have e9 : (tvM M).2.2 j = rd M 42 j := cut_lt hj
          rw [e9] at this
          exact this
      rw [n1, old 38 (by omega) (by omega) (by omega) (by omega) (by omega) (by omega) (by omega), e38, n2]
      refine ⟨v4, vx, fin_eq ?_ (hK _ (hI.now (fun q hq h1 h2 h3 h4 h5 h6 h7 j => ?_) (old 1 (by omega) (by omega) (by omega) (by omega) (by omega) (by omega) (by omega) 1) (fun k _ _ _ => old 29 (by omega) (by omega) (by omega) (by omega) (by omega) (by omega) (by omega) k) (fun e => ?_) (fun a2 b2 c2 d2 q1 q2 e => ?_)))⟩
      · rw [← p60, all 60 (by omega) (by omega) (by omega) (by omega) (by omega)]
      · unfold core at hq
        exact old q (by omega) (by omega) (by omega) (by omega) (by omega) (by omega) (by omega) j
      · rw [arl] at e ⊢
        obtain ⟨f1, f2, f3, f4, f5, f6, f7, f8⟩ := e
        have nx : ∀ q, q ≠ 35 → q ≠ 42 → q ≠ 43 → q ≠ 44 → q ≠ 45 → q ≠ 60 → q ≠ 64 → ∀ j, rd M5 q j = rd M q j := old
        refine ⟨p60, fun j => ?_, fun j => ?_, fun j => ?_, p64, ?_, ?_, fun j hj => ?_⟩
        · rw [nx 61 (by omega) (by omega) (by omega) (by omega) (by omega) (by omega) (by omega), nx 36 (by omega) (by omega) (by omega) (by omega) (by omega) (by omega) (by omega)]; exact f2 j
        · rw [nx 62 (by omega) (by omega) (by omega) (by omega) (by omega) (by omega) (by omega), nx 37 (by omega) (by omega) (by omega) (by omega) (by omega) (by omega) (by omega)]; exact f3 j
        · rw [nx 63 (by omega) (by omega) (by omega) (by omega) (by omega) (by omega) (by omega), nx 41 (by omega) (by omega) (by omega) (by omega) (by omega) (by omega) (by omega)]; exact f4 j
        · rw [nx 59 (by omega) (by omega) (by omega) (by omega) (by omega) (by omega) (by omega), nx 29 (by omega) (by omega) (by omega) (by omega) (by omega) (by omega) (by omega)]; exact f6
        · rw [nx 59 (by omega) (by omega) (by omega) (by omega) (by omega) (by omega) (by omega), nx 29 (by omega) (by omega) (by omega) (by omega) (by omega) (by omega) (by omega)]; exact f7
        · rw [nx 65 (by omega) (by omega) (by omega) (by omega) (by omega) (by omega) (by omega), nx 66 (by omega) (by omega) (by omega) (by omega) (by omega) (by omega) (by omega), nx 52 (by omega) (by omega) (by omega) (by omega) (by omega) (by omega) (by omega), nx 52 (by omega) (by omega) (by omega) (by omega) (by omega) (by omega) (by omega)]; exact f8 j hj
      · rw [awl] at e ⊢
        obtain ⟨g1, g2, g3, g4, g5, g6, g7⟩ := e
        have n59 := old 59 (by omega) (by omega) (by omega) (by omega) (by omega) (by omega) (by omega)
        have n61 := old 61 (by omega) (by omega) (by omega) (by omega) (by omega) (by omega) (by omega)
        have n62 := old 62 (by omega) (by omega) (by omega) (by omega) (by omega) (by omega) (by omega)
        have n63 := old 63 (by omega) (by omega) (by omega) (by omega) (by omega) (by omega) (by omega)
        have n65 := old 65 (by omega) (by omega) (by omega) (by omega) (by omega) (by omega) (by omega)
        have n66 := old 66 (by omega) (by omega) (by omega) (by omega) (by omega) (by omega) (by omega)
        refine ⟨fun p hp => by rw [n61]; exact g1 p hp, fun hc j hj => by rw [n62]; exact g2 hc j hj, fun k hk => by rw [n63]; exact g3 k hk, z64, ?_, fun j hj => by rw [n66]; exact g6 j hj, by rw [n59]; exact g7⟩
        obtain ⟨s, x1, x2, x3⟩ := g5
        exact ⟨s, x1, by rw [n59]; exact x2, fun j hj => by rw [n65]; exact x3 j hj⟩
    · rw [if_neg hm]
      refine ⟨fun z => absurd rfl z, fun _ => ⟨hA, ?_⟩⟩
      unfold wp_X12_pay
      rw [eq_isDebt hM.2.2.2.1 (by omega)]
      refine ⟨fun _ => ⟨fun _ => ?_, fun z => absurd z (by decide)⟩, fun z => absurd hd z⟩
      refine sp_begin (fun M2 f2 g2 => ?_)
      rw [eqm_may (f2.mo hM) hk, f2.st, g2, if_neg hm]
      exact ⟨fun z => absurd rfl z, fun _ => fin_eq rfl (hK _ (f2.fr.inv hI))⟩
  · refine ⟨fun z => absurd z hd, fun _ => ⟨fun z => absurd z (by decide), fun _ => ⟨hA, ?_⟩⟩⟩
    unfold wp_X12_pay
    rw [eq_isDebt hM.2.2.2.1 (by omega)]
    exact ⟨fun z => absurd z hd, fun _ => ⟨fun z => absurd rfl z, fun _ => fin_eq rfl (hK _ hI)⟩⟩
