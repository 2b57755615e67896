/-! ===== the calls without loops ===== -/
theorem wr_n {M : Mem} {q k a : Nat} {v : Int32} (h : a ≠ q) (b : Nat) : rd (wr M q k v) a b = rd M a b := by
  rw [rd_wr, if_neg (fun z => h z.1)]
theorem wr_k {M : Mem} {q k b : Nat} {v : Int32} (a : Nat) (h : b ≠ k) : rd (wr M q k v) a b = rd M a b := by
  rw [rd_wr, if_neg (fun z => h z.2)]
theorem wr_s (M : Mem) (q k : Nat) (v : Int32) : rd (wr M q k v) q k = v := by rw [rd_wr, if_pos ⟨rfl, rfl⟩]
theorem wr_q (M : Mem) (q k : Nat) (v : Int32) (b : Nat) : rd (wr M q k v) q b = if b = k then v else rd M q b := by
  rw [rd_wr]
  by_cases h : b = k
  · rw [if_pos ⟨rfl, h⟩, if_pos h]
  · rw [if_neg (fun z => h z.2), if_neg h]
theorem aw_congr1 {M M' : Mem} {o a c d : Nat} (h : ∀ i, i < 8 → i ≠ 1 → ∀ j, rd M' (o + i) j = rd M (o + i) j) (e : AW M o a c d) : AW M' o a c d := by
  obtain ⟨e1, e2, e3, e4, e5, e6, e7⟩ := e
  have h0 : ∀ j, rd M' o j = rd M o j := h 0 (by omega) (by omega)
  refine ⟨fun p hp => by rw [h 2 (by omega) (by omega)]; exact e1 p hp, fun hc k hk => by rw [h 3 (by omega) (by omega)]; exact e2 hc k hk, fun k hk => by rw [h 4 (by omega) (by omega)]; exact e3 k hk, fun k => by rw [h 5 (by omega) (by omega)]; exact e4 k, ?_, fun j => by rw [h 7 (by omega) (by omega)]; exact e6 j, by rw [h0]; exact e7⟩
  obtain ⟨s, s1, s2, s3⟩ := e5
  exact ⟨s, s1, by rw [h0]; exact s2, fun j hj => by rw [h 6 (by omega) (by omega)]; exact s3 j hj⟩
/-- a change of the present affairs alone -/
theorem Inv.now {n : Nat} {M M' : Mem} (h : Inv n M) (hC : ∀ q, core q → ¬ (59 ≤ q ∧ q ≤ 66) → q ≠ 35 → q ≠ 36 → q ≠ 37 → q ≠ 41 → q ≠ 42 → q ≠ 52 → ∀ j, rd M' q j = rd M q j) (h1 : rd M' 1 1 = rd M 1 1) (h29 : ∀ k, slots29 k → k ≠ 31 → k ≠ 8 → rd M' 29 k = rd M 29 k) (hr : ARn M → ARn M') (hw : ∀ a b c d, CN M a b c d → HW M a b c d → AW M 59 a c d → AW M' 59 a c d) : Inv n M' := by
  obtain ⟨e0, a, b, c, d, e1, e2, e3, e4, e5, e6, e7, e8, e9⟩ := h
  have hx : ∀ q, (q = 0 ∨ 2 ≤ q ∧ q ≤ 14 ∨ 30 ≤ q ∧ q ≤ 34 ∨ 38 ≤ q ∧ q ≤ 40 ∨ 53 ≤ q ∧ q ≤ 58 ∨ 67 ≤ q ∧ q ≤ 74) → ∀ j, rd M' q j = rd M q j := fun q hq j => hC q (by unfold core; omega) (by omega) (by omega) (by omega) (by omega) (by omega) (by omega) (by omega) j
  have eqx : ∀ {q q' : Nat}, (q = 0 ∨ 2 ≤ q ∧ q ≤ 14 ∨ 30 ≤ q ∧ q ≤ 34 ∨ 38 ≤ q ∧ q ≤ 40 ∨ 53 ≤ q ∧ q ≤ 58 ∨ 67 ≤ q ∧ q ≤ 74) → (q' = 0 ∨ 2 ≤ q' ∧ q' ≤ 14 ∨ 30 ≤ q' ∧ q' ≤ 34 ∨ 38 ≤ q' ∧ q' ≤ 40 ∨ 53 ≤ q' ∧ q' ≤ 58 ∨ 67 ≤ q' ∧ q' ≤ 74) → EQ M q q' → EQ M' q q' := fun h1 h2 e j => by rw [hx _ h1, hx _ h2]; exact e j
  have s29 : ∀ k, k = 1 ∨ 4 ≤ k ∧ k ≤ 7 ∨ k = 9 ∨ 34 ≤ k ∧ k ≤ 36 → rd M' 29 k = rd M 29 k := fun k hk => h29 k (by unfold slots29; omega) (by omega) (by omega)
  refine ⟨e0, a, b, c, d, ?_, ?_, ?_, hr e4, hw a b c d e1 e2 e5, ?_, ?_, ?_, ?_⟩
  · unfold CN at e1 ⊢
    have h3 := hx 3 (by omega)
    rw [h3, h3, h3, h3, s29 4 (by omega), s29 5 (by omega), s29 6 (by omega), s29 7 (by omega)]
    exact e1
  · obtain ⟨f1, f2, f3⟩ := e2
    refine ⟨fun k hk => ?_, fun p hp => ?_, fun k hk => ?_⟩
    · rw [hx 4 (by omega), hx 5 (by omega), hx 6 (by omega)]; exact f1 k hk
    · rw [hx (11 + p) (by omega)]; exact f2 p hp
    · rw [hx 8 (by omega), hx 9 (by omega), hx 10 (by omega)]; exact f3 k hk
  · obtain ⟨f1, f2, f3, f4, f5, f6, f7⟩ := e3
    exact ⟨eqx (by omega) (by omega) f1, eqx (by omega) (by omega) f2, eqx (by omega) (by omega) f3, fun p hp => by rw [hx (11 + p) (by omega), hx 34 (by omega)]; exact f4 p hp, eqx (by omega) (by omega) f5, eqx (by omega) (by omega) f6, eqx (by omega) (by omega) f7⟩
  · obtain ⟨f1, f2, f3, f4, f5, f6, f7, f8⟩ := e6
    exact ⟨eqx (by omega) (by omega) f1, eqx (by omega) (by omega) f2, eqx (by omega) (by omega) f3, eqx (by omega) (by omega) f4, eqx (by omega) (by omega) f5, by rw [hx 67 (by omega), s29 36 (by omega)]; exact f6, by rw [hx 67 (by omega), s29 35 (by omega)]; exact f7, fun j hj => by rw [hx (67 + 6) (by omega), hx (67 + 7) (by omega), hx 58 (by omega), hx 58 (by omega)]; exact f8 j hj⟩
  · intro z
    rw [hx 0 (by omega)] at z
    exact aw_congr (fun i hi j => hx (67 + i) (by omega) j) (e7 z)
  · obtain ⟨l, f1, f2, f3, f4, f5⟩ := e8
    exact ⟨l, f1, by rw [h1]; exact f2, by rw [s29 1 (by omega)]; exact f3, fun j => by rw [hx 2 (by omega), hx 30 (by omega)]; exact f4 j, fun j hj => by rw [hx 30 (by omega)]; exact f5 j hj⟩
  · unfold KP at e9 ⊢
    rw [hx 0 (by omega), hx 0 (by omega), s29 9 (by omega), s29 34 (by omega)]
    exact e9
theorem vp_le {v : Int32} {n m : Nat} (h : vp_in v n) (hm : n ≤ m) : vp_in v m := vp_mono h hm
theorem le9 {v : Int32} {k : Nat} (hk : k < 1000) : v ≤ nI k ↔ v.toInt ≤ k := by rw [Int32.le_iff_toInt_le, nI_toInt (by omega)]
/-- earn -/
theorem op_earn {n : Nat} {M : Mem} {v1 v2 : Int32} {A : Prop} {K : Mem → Prop} (hI : Inv n M) (hK : ∀ M', Inv n M' → K M') (hA : A) : wp_X11_earn (fun r M1 => A ∧ wp_X12_earn (fun r' M2 => (r = r' → K M2) ∧ (¬ r = r' → False)) M1 v1 v2) M v1 v2 := by
  obtain ⟨a, b, c, d, hc, hw, hr, ha, haw⟩ := hI.2
  unfold wp_X11_earn wp_X12_earn
  have hn : c < 1000 := by have := hc.2.2.2.2.2.2.2.2.2.2.1; omega
  have i1 : v2 < 1 ↔ v2.toInt < 1 := by rw [Int32.lt_iff_toInt_lt]; rfl
  have i9 : v2 ≤ 9 ↔ v2.toInt ≤ 9 := by rw [Int32.le_iff_toInt_le]; rfl
  refine sp_isNobody hc.2.2.1 hn (fun hp => ⟨fun _ => ?_, fun z => absurd rfl z⟩) (fun hp => ⟨fun z => absurd z (by decide), fun _ => ⟨hA, ?_⟩⟩)
  · have hp4 : vp_in v1 4 := vp_le hp hc.2.2.2.2.2.2.2.2.2.2.1
    have key : ∀ {Q : Int32 → Mem → Prop} {N : Mem}, N = N → (v2 < 1 ∨ ¬ v2 ≤ 9 → Q 0 N) → (¬ v2 < 1 → v2 ≤ 9 → Q 1 N) → wp_X12_in Q N v2.toInt64 (1 : Int64) (9 : Int64) := fun _ g0 g1 =>
      sp_in (lo := 1) (hi := 9) (by decide) (by decide) (fun z => g1 (by rw [i1]; omega) (by rw [i9]; omega)) (fun z => g0 (by rw [i1, i9]; omega))
    have bad : v2 < 1 ∨ ¬ v2 ≤ 9 → A ∧ wp_X12_isPerson (fun r1 M2 => (¬ r1 = 0 → wp_X12_in (fun r3 M4 => (¬ r3 = 0 → vp_in v1 4 ∧ (((rd M4 35 v1.toNatClampNeg) + v2) ≤ 99 → vp_in v1 4 ∧ vp_in v1 4 ∧ ∀ M5 : Mem, M5 = wr M4 35 v1.toNatClampNeg ((rd M4 35 v1.toNatClampNeg) + v2) → vp_in v1 4 ∧ ((-102 = rd M5 35 v1.toNatClampNeg → K M5) ∧ (¬ -102 = rd M5 35 v1.toNatClampNeg → False))) ∧ (¬ ((rd M4 35 v1.toNatClampNeg) + v2) ≤ 99 → ((-102 : Int32) = -104 → K M4) ∧ (¬ (-102 : Int32) = -104 → False))) ∧ (r3 = 0 → ((-102 : Int32) = -102 → K M4) ∧ (¬ (-102 : Int32) = -102 → False))) M2 (v2.toInt64) (1 : Int64) (9 : Int64)) ∧ (r1 = 0 → ((-102 : Int32) = -101 → K M2) ∧ (¬ (-102 : Int32) = -101 → False))) M v1 := fun z =>
      ⟨hA, sp_isPerson hc.2.2.2.2.2.2.1 hn (fun _ => ⟨fun _ => key rfl (fun _ => ⟨fun y => absurd rfl y, fun _ => fin_eq rfl (hK _ hI)⟩) (fun y1 y2 => absurd z (by rintro (z | z); exact y1 z; exact z y2)), fun y => absurd y (by decide)⟩) (fun y => absurd hp y)⟩
    refine ⟨fun z => bad (Or.inl z), fun z1 => ⟨fun z2 => ⟨hp4, fun z3 => ⟨hp4, hp4, ?_⟩, fun z3 => ⟨hA, ?_⟩⟩, fun z2 => bad (Or.inr z2)⟩⟩
    · rintro M3 rfl
      refine ⟨hp4, hA, ?_⟩
      refine sp_isPerson (n := c) (by rw [wr_n (by omega)]; exact hc.2.2.2.2.2.2.1) hn (fun _ => ⟨fun _ => key rfl (fun y => absurd y (by rintro (y | y); exact z1 y; exact y z2)) (fun _ _ => ⟨fun _ => ⟨hp4, fun z4 => ⟨hp4, hp4, ?_⟩, fun z4 => ?_⟩, fun y => absurd y (by decide)⟩), fun y => absurd y (by decide)⟩) (fun y => absurd hp y)
      · rintro M5 rfl
        refine ⟨hp4, fin_eq ?_ (hK _ ?_)⟩
        · rw [wr_s, wr_s, wr_n (by omega), ← ha.1]
        · refine hI.now (fun q hq h1 h2 h3 h4 h5 h6 h7 j => by rw [wr_n (by omega), wr_n (by omega)]) (by rw [wr_n (by omega), wr_n (by omega)]) (fun k hk _ _ => by rw [wr_n (by omega), wr_n (by omega)]) (fun e => ?_) (fun a b c d _ _ e => aw_congr1 (fun i hi hi1 j => by rw [wr_n (by omega), wr_n (by omega)]) e)
          obtain ⟨f1, f2, f3, f4, f5, f6, f7, f8⟩ := e
          have nx : ∀ q, q ≠ 60 → q ≠ 35 → ∀ j, rd (wr (wr M 60 v1.toNatClampNeg (rd M 60 v1.toNatClampNeg + v2)) 35 v1.toNatClampNeg (rd (wr M 60 v1.toNatClampNeg (rd M 60 v1.toNatClampNeg + v2)) 35 v1.toNatClampNeg + v2)) q j = rd M q j := fun q h1 h2 j => by rw [wr_n h2, wr_n h1]
          refine ⟨fun j => ?_, fun j => by rw [nx _ (by omega) (by omega), nx _ (by omega) (by omega)]; exact f2 j, fun j => by rw [nx _ (by omega) (by omega), nx _ (by omega) (by omega)]; exact f3 j, fun j => by rw [nx _ (by omega) (by omega), nx _ (by omega) (by omega)]; exact f4 j, fun j => by rw [nx _ (by omega) (by omega), nx _ (by omega) (by omega)]; exact f5 j, by rw [nx _ (by omega) (by omega), nx _ (by omega) (by omega)]; exact f6, by rw [nx _ (by omega) (by omega), nx _ (by omega) (by omega)]; exact f7, fun j hj => by rw [nx _ (by omega) (by omega), nx _ (by omega) (by omega), nx _ (by omega) (by omega), nx _ (by omega) (by omega)]; exact f8 j hj⟩
          show rd _ 60 j = _
          rw [wr_n (by omega), wr_q, wr_q, wr_n (by omega), wr_n (by omega)]
          have g := f1 j
          have g2 := f1 v1.toNatClampNeg
          rw [g2]
          by_cases hj : j = v1.toNatClampNeg
          · rw [if_pos hj, if_pos hj]
          · rw [if_neg hj, if_neg hj]; exact g
      · exact absurd (by rw [wr_n (by omega), ← ha.1]; exact z3) z4
    · exact sp_isPerson hc.2.2.2.2.2.2.1 hn (fun _ => ⟨fun _ => key rfl (fun y => absurd y (by rintro (y | y); exact z1 y; exact y z2)) (fun _ _ => ⟨fun _ => ⟨hp4, fun z4 => absurd z4 (by rw [← ha.1]; exact z3), fun z4 => fin_eq rfl (hK _ hI)⟩, fun y => absurd y (by decide)⟩), fun y => absurd y (by decide)⟩) (fun y => absurd hp y)
  · exact sp_isPerson hc.2.2.2.2.2.2.1 hn (fun y => absurd y hp) (fun _ => ⟨fun y => absurd rfl y, fun _ => fin_eq rfl (hK _ hI)⟩)
