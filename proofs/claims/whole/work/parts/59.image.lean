theorem Inv.kept {n : Nat} {M M' : Mem} (h : Inv n M) (hC : ∀ q, core q → q ≠ 0 → ¬ (53 ≤ q ∧ q ≤ 58) → ¬ (67 ≤ q ∧ q ≤ 74) → ∀ j, rd M' q j = rd M q j) (h1 : rd M' 1 1 = rd M 1 1) (h29 : ∀ k, slots29 k → ¬ (34 ≤ k ∧ k ≤ 36) → rd M' 29 k = rd M 29 k) (hk : ARk M') (hw : ∀ a b c d, CN M a b c d → HW M a b c d → AW M 59 a c d → AW M' 67 a c d) (hp : KP n M → KP n M') : Inv n M' := by
  obtain ⟨e0, a, b, c, d, e1, e2, e3, e4, e5, e6, e7, e8, e9⟩ := h
  have hx : ∀ q, (2 ≤ q ∧ q ≤ 14 ∨ 30 ≤ q ∧ q ≤ 42 ∨ q = 52 ∨ 59 ≤ q ∧ q ≤ 66) → ∀ j, rd M' q j = rd M q j := fun q hq j => hC q (by unfold core; omega) (by omega) (by omega) (by omega) j
  have eqx : ∀ {q q' : Nat}, (2 ≤ q ∧ q ≤ 14 ∨ 30 ≤ q ∧ q ≤ 42 ∨ q = 52 ∨ 59 ≤ q ∧ q ≤ 66) → (2 ≤ q' ∧ q' ≤ 14 ∨ 30 ≤ q' ∧ q' ≤ 42 ∨ q' = 52 ∨ 59 ≤ q' ∧ q' ≤ 66) → EQ M q q' → EQ M' q q' := fun h1 h2 e j => by rw [hx _ h1, hx _ h2]; exact e j
  have s29 : ∀ k, k = 1 ∨ 4 ≤ k ∧ k ≤ 9 ∨ k = 31 → rd M' 29 k = rd M 29 k := fun k hk => h29 k (by unfold slots29; omega) (by omega)
  refine ⟨e0, a, b, c, d, ?_, ?_, ?_, ?_, aw_congr (fun i hi j => hx (59 + i) (by omega) j) e5, hk, fun _ => hw a b c d e1 e2 e5, ?_, hp e9⟩
  · unfold CN at e1 ⊢
    have h3 := hx 3 (by omega)
    rw [h3, h3, h3, h3, s29 4 (by omega), s29 5 (by omega), s29 6 (by omega), s29 7 (by omega)]
    exact e1
  · obtain ⟨f1, f2, f3⟩ := e2
    refine ⟨fun k hk => ?_, fun p hp => ?_, fun k hk => ?_⟩
    · rw [hx 4 (by omega), hx 5 (by omega), hx 6 (by omega)]; exact f1 k hk
    · rw [hx (11 + p) (by omega)]; exact f2 p hp
    · rw [hx 8 (by omega), hx 9 (by omega), hx 10 (by omega)]; exact f3 k hk
  · obtain ⟨f1, f2, f3, f4, f5, f6, f7⟩ := e3
    exact ⟨eqx (by omega) (by omega) f1, eqx (by omega) (by omega) f2, eqx (by omega) (by omega) f3, fun p hp => by rw [hx (11 + p) (by omega), hx 34 (by omega)]; exact f4 p hp, eqx (by omega) (by omega) f5, eqx (by omega) (by omega) f6, eqx (by omega) (by omega) f7⟩
  · obtain ⟨f1, f2, f3, f4, f5, f6, f7, f8⟩ := e4
    exact ⟨eqx (by omega) (by omega) f1, eqx (by omega) (by omega) f2, eqx (by omega) (by omega) f3, eqx (by omega) (by omega) f4, eqx (by omega) (by omega) f5, by rw [hx 59 (by omega), s29 31 (by omega)]; exact f6, by rw [hx 59 (by omega), s29 8 (by omega)]; exact f7, fun j hj => by rw [hx (59 + 6) (by omega), hx (59 + 7) (by omega), hx 52 (by omega), hx 52 (by omega)]; exact f8 j hj⟩
  · obtain ⟨l, f1, f2, f3, f4, f5⟩ := e8
    exact ⟨l, f1, by rw [h1]; exact f2, by rw [s29 1 (by omega)]; exact f3, fun j => by rw [hx 2 (by omega), hx 30 (by omega)]; exact f4 j, fun j hj => by rw [hx 30 (by omega)]; exact f5 j hj⟩
theorem if_cc {p : Prop} [Decidable p] {a b a' b' : Int32} (h1 : p → a = a') (h2 : ¬ p → b = b') : (if p then a else b) = if p then a' else b' := by
  by_cases h : p
  · rw [if_pos h, if_pos h]; exact h1 h
  · rw [if_neg h, if_neg h]; exact h2 h
/-- affairs that are taken over fit as the others did -/
theorem tk_aw {M M' : Mem} {o o1 a c d : Nat} (t : TK M M' o o1) (hc : c ≤ 4) (hd : d ≤ 4) (e : AW M o1 a c d) : AW M' o a c d := by
  obtain ⟨t0, t1, t2, t3, t4, t5, t6, t7, t8, t9, -⟩ := t
  obtain ⟨g1, g2, g3, g4, g5, g6, g7⟩ := e
  refine ⟨fun p hp => ?_, fun hc0 k hk => ?_, fun k hk => ?_, fun k hk => ?_, ?_, fun k hk => ?_, by rw [t9]; exact g7⟩
  · rw [t2 p, if_pos (by omega)]; exact g1 p hp
  · rw [t3 k, if_pos (by omega)]; exact g2 hc0 k hk
  · rw [t4 k, if_pos (by omega)]; exact g3 k hk
  · rw [t5 k, if_pos hk]; exact g4 k hk
  · obtain ⟨s, s1, s2, s3⟩ := g5
    exact ⟨s, s1, by rw [t8]; exact s2, fun j hj => by rw [t6 j, if_pos (by omega)]; exact s3 j hj⟩
  · rw [t7 k, if_pos hk]; exact g6 k hk
theorem op_image {n : Nat} {M : Mem} {K : Mem → Prop} (hI : Inv n M) (hK : ∀ M', Inv n M' → K M') : wp_X11_image (fun r M1 => wp_X12_image (fun r' M2 => (r = r' → K M2) ∧ (¬ r = r' → False)) M1) M := by
  obtain ⟨a, b, c, d, hc, hw, hr, ha, haw, hkr, -, -, hkp⟩ := hI.2
  have hkI := hK M hI
  obtain ⟨c0', c1', c2', c3', c4', c5', c6', c7', ba, bb, bc, bd, -⟩ := hc
  rw [arl] at ha
  unfold wp_X11_image wp_X12_image
  by_cases h0 : c = 0
  · have z2 : rd M 3 2 = 0 := by rw [c2', h0]; rfl
    have z6 : rd M 29 6 = 0 := by rw [c6', h0]; rfl
    simp [z2, eq_lacks, z6, hkI]
  · have z2 : ¬ rd M 3 2 = 0 := by rw [c2']; exact nI_ne0 (by omega) (by omega)
    have z6 : ¬ rd M 29 6 = 0 := by rw [c6']; exact nI_ne0 (by omega) (by omega)
    refine ⟨fun _ => ?_, fun z => absurd z z2⟩
    refine sp_takeOver (by omega) (fun j hj => haw.2.2.2.1 j hj) (fun j hj => haw.2.2.2.2.2.1 j hj) (fun M1 t => ?_)
    have ta := fun {a c d} (hc : c ≤ 4) (hd : d ≤ 4) (e : AW M 59 a c d) => tk_aw t hc hd e
    obtain ⟨t0, t1, t2, t3, t4, t5, t6, t7, t8, t9, -⟩ := t
    rintro M3 rfl
    rw [eq_lacks, if_neg (by rw [wr_n (by omega), t0 29 (by omega)]; exact z6)]
    refine ⟨fun _ => ?_, fun z => absurd rfl z⟩
    refine sp_copy (by omega) (by omega) (fun N1 u1 w1 _ => ?_)
    refine sp_copy (by omega) (by omega) (fun N2 u2 w2 _ => ?_)
    refine sp_copy (by omega) (by omega) (fun N3 u3 w3 _ => ?_)
    refine sp_copy (by omega) (by omega) (fun N4 u4 w4 _ => ?_)
    refine sp_copy (by omega) (by omega) (fun N5 u5 w5 _ => ?_)
    refine sp_copy (by omega) (by omega) (fun N6 u6 w6 _ => ?_)
    rintro L1 rfl L2 rfl L3 rfl
    have all : ∀ q, ¬ (53 ≤ q ∧ q ≤ 58) → ∀ j, rd N6 q j = rd (wr M1 0 8 1) q j := fun q hq j => by
      rw [u6 q (by omega), u5 q (by omega), u4 q (by omega), u3 q (by omega), u2 q (by omega), u1 q (by omega)]
    have old : ∀ q, ¬ (53 ≤ q ∧ q ≤ 58) → ¬ (67 ≤ q ∧ q ≤ 74) → q ≠ 0 → ∀ j, rd N6 q j = rd M q j := fun q h1 h2 h3 j => by
      rw [all q h1, wr_n h3, t0 q (by omega)]
    have o29 : ∀ k, rd N6 29 k = rd M 29 k := old 29 (by omega) (by omega) (by omega)
    have r1 : rd (wr M1 0 8 1) 59 9 = rd M 59 9 := by rw [wr_n (by omega), t0 59 (by omega)]
    have k53 : ∀ j, rd N6 53 j = if j < 4 then rd M 35 j else rd M 53 j := fun j => by
      rw [u6 53 (by omega), u5 53 (by omega), u4 53 (by omega), u3 53 (by omega), u2 53 (by omega), w1 j, wr_n (by omega), wr_n (by omega), t0 35 (by omega), t0 53 (by omega)]
    have k54 : ∀ j, rd N6 54 j = if j < 4 then rd M 36 j else rd M 54 j := fun j => by
      rw [u6 54 (by omega), u5 54 (by omega), u4 54 (by omega), u3 54 (by omega), w2 j, u1 36 (by omega), u1 54 (by omega), wr_n (by omega), wr_n (by omega), t0 36 (by omega), t0 54 (by omega)]
    have k55 : ∀ j, rd N6 55 j = if j < 2 then rd M 37 j else rd M 55 j := fun j => by
      rw [u6 55 (by omega), u5 55 (by omega), u4 55 (by omega), w3 j, u2 37 (by omega), u2 55 (by omega), u1 37 (by omega), u1 55 (by omega), wr_n (by omega), wr_n (by omega), t0 37 (by omega), t0 55 (by omega)]
    have k56 : ∀ j, rd N6 56 j = if j < 4 then rd M 41 j else rd M 56 j := fun j => by
      rw [u6 56 (by omega), u5 56 (by omega), w4 j, u3 41 (by omega), u3 56 (by omega), u2 41 (by omega), u2 56 (by omega), u1 41 (by omega), u1 56 (by omega), wr_n (by omega), wr_n (by omega), t0 41 (by omega), t0 56 (by omega)]
    have k57 : ∀ j, rd N6 57 j = if j < 4 then rd M 42 j else rd M 57 j := fun j => by
      rw [u6 57 (by omega), w5 j, u4 42 (by omega), u4 57 (by omega), u3 42 (by omega), u3 57 (by omega), u2 42 (by omega), u2 57 (by omega), u1 42 (by omega), u1 57 (by omega), wr_n (by omega), wr_n (by omega), t0 42 (by omega), t0 57 (by omega)]
    have k58 : ∀ j, j < 12 → rd N6 58 j = rd M 52 j := fun j hj => by
      rw [w6 j, if_pos hj, u5 52 (by omega), u4 52 (by omega), u3 52 (by omega), u2 52 (by omega), u1 52 (by omega), wr_n (by omega), t0 52 (by omega)]
    have aff : ∀ q, 67 ≤ q → q ≤ 74 → ∀ j, rd N6 q j = rd M1 q j := fun q h1 h2 j => by rw [all q (by omega), wr_n (by omega)]
    refine fin_eq ?_ (hK _ (hI.kept (fun q hq h0 h1 h2 j => ?_) ?_ (fun k hk1 hk2 => ?_) ?_ (fun a2 b2 c2 d2 q1 q2 e => ?_) (fun e => ?_)))
    · rw [r1, wr_k _ (by omega), wr_k _ (by omega), wr_k _ (by omega), o29]; exact ha.2.2.2.2.2.2.1
    · have hq29 : q ≠ 29 := fun z => by subst z; unfold core at hq; omega
      rw [wr_n hq29, wr_n hq29, wr_n hq29]; exact old q h1 h2 h0 j
    · rw [wr_n (by omega), wr_n (by omega), wr_n (by omega)]; exact old 1 (by omega) (by omega) (by omega) 1
    · rw [wr_k _ (by omega), wr_k _ (by omega), wr_k _ (by omega)]; exact o29 k
    · obtain ⟨f1, f2, f3, f4, f5, f6, f7, f8⟩ := hkr
      have nx : ∀ q, q ≠ 29 → ∀ j, rd (wr (wr (wr N6 29 35 (rd N6 29 8)) 29 36 (rd (wr N6 29 35 (rd N6 29 8)) 29 31)) 29 34 (rd (wr (wr N6 29 35 (rd N6 29 8)) 29 36 (rd (wr N6 29 35 (rd N6 29 8)) 29 31)) 29 9)) q j = rd N6 q j := fun q hq j => by rw [wr_n hq, wr_n hq, wr_n hq]
      refine ⟨fun j => ?_, fun j => ?_, fun j => ?_, fun j => ?_, fun j => ?_, ?_, ?_, fun j hj => ?_⟩
      · rw [nx _ (by omega), nx _ (by omega), aff _ (by omega) (by omega), t1 j, k53 j]; exact if_cc (fun _ => ha.1 j) (fun _ => f1 j)
      · rw [nx _ (by omega), nx _ (by omega), aff _ (by omega) (by omega), t2 j, k54 j]; exact if_cc (fun _ => ha.2.1 j) (fun _ => f2 j)
      · rw [nx _ (by omega), nx _ (by omega), aff _ (by omega) (by omega), t3 j, k55 j]; exact if_cc (fun _ => ha.2.2.1 j) (fun _ => f3 j)
      · rw [nx _ (by omega), nx _ (by omega), aff _ (by omega) (by omega), t4 j, k56 j]; exact if_cc (fun _ => ha.2.2.2.1 j) (fun _ => f4 j)
      · rw [nx _ (by omega), nx _ (by omega), aff _ (by omega) (by omega), t5 j, k57 j]; exact if_cc (fun _ => ha.2.2.2.2.1 j) (fun _ => f5 j)
      · rw [nx _ (by omega), aff _ (by omega) (by omega), t8, wr_k _ (by omega), wr_s, wr_k _ (by omega), o29]; exact ha.2.2.2.2.2.1
      · rw [nx _ (by omega), aff _ (by omega) (by omega), t9, wr_k _ (by omega), wr_k _ (by omega), wr_s, o29]; exact ha.2.2.2.2.2.2.1
      · have g := ha.2.2.2.2.2.2.2 j hj
        rw [nx (67 + 6) (by omega), nx (67 + 7) (by omega), nx 58 (by omega), nx 58 (by omega), aff (67 + 6) (by omega) (by omega), aff (67 + 7) (by omega) (by omega), t6 j, t7 j, if_pos hj, if_pos hj, k58 (2 * j) (by omega), k58 (2 * j + 1) (by omega)]
        exact g
    · have e2 := ta (q1.2.2.2.2.2.2.2.2.2.2.1) (q1.2.2.2.2.2.2.2.2.2.2.2.1) e
      refine aw_congr (fun i hi j => ?_) e2
      rw [wr_n (by omega), wr_n (by omega), wr_n (by omega)]
      exact aff (67 + i) (by omega) (by omega) j
    · obtain ⟨k, k1, k2, k3, -⟩ := e
      refine ⟨k, k1, ?_, ?_, Or.inl ⟨?_, ?_⟩⟩
      · rw [wr_n (by omega), wr_n (by omega), wr_n (by omega), all 0 (by omega), wr_k _ (by omega), t0 0 (by omega)]; exact k2
      · rw [wr_k _ (by omega), wr_k _ (by omega), wr_k _ (by omega), o29]; exact k3
      · rw [wr_n (by omega), wr_n (by omega), wr_n (by omega), all 0 (by omega), wr_s]
      · rw [wr_s, wr_k _ (by omega), wr_k _ (by omega), o29]; exact k3
