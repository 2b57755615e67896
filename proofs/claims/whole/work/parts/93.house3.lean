/-! ===== house, both sides ===== -/
theorem eq_fl {M Mf : Mem} {q q' i : Nat} {V : Nat → Int32} (h1 : fl M Mf q i V) (h2 : fl M Mf q' i V) (e : EQ M q q') : EQ Mf q q' := fun j => by
  rw [h1 j, h2 j]
  by_cases z : j < i
  · rw [if_pos z, if_pos z]
  · rw [if_neg z, if_neg z]
    exact e j
theorem fl_at {M Mf : Mem} {q i j : Nat} {V : Nat → Int32} (h : fl M Mf q i V) (hj : j < i) : rd Mf q j = V j := by rw [h j, if_pos hj]
theorem kd_nI {x : Nat} (h : kdOK x) : ∃ y, y < 5 ∧ ixU 1 x = nI y := by
  rcases h with rfl | rfl | rfl | rfl | rfl
  · exact ⟨0, by omega, rfl⟩
  · exact ⟨1, by omega, rfl⟩
  · exact ⟨2, by omega, rfl⟩
  · exact ⟨3, by omega, rfl⟩
  · exact ⟨4, by omega, rfl⟩
theorem lk_3 {x : Nat} (h : x = 111 ∨ x = 97 ∨ x = 98) : lkV x = -1 ∨ lkV x = 0 ∨ lkV x = 1 := by
  rcases h with rfl | rfl | rfl
  · exact Or.inl rfl
  · exact Or.inr (Or.inl rfl)
  · exact Or.inr (Or.inr rfl)
theorem inv_house {n : Nat} {M M2 M3 M5 M6 M7 M8 Mf : Mem} {lt : Nat → Nat} {l R dr pe de : Nat} (hI : Inv n M) (hn : n + 1 ≤ 64) (g : PGW lt l R dr pe de) (f2 : FC M M2) (h3 : HF lt R dr pe de M2 M3) (h5 : HA lt dr pe de M3 M5) (e6 : M6 = wr M5 1 1 0) (e7 : M7 = wr M6 0 8 0) (e8 : M8 = wr M7 0 9 ((rd M7 0 9) + 1)) (hm : HM lt R dr pe de M8 Mf) : Inv (n + 1) Mf := by
  obtain ⟨ct, hd, hp, hk, el, hl, hlt⟩ := g
  obtain ⟨c0, hR2, hR6, cd, cp', ck⟩ := ct
  obtain ⟨-, a, b, c, d, hc, hw, hr, ha, haw, hak, -, hpg, k, k1, k2, k3, k4⟩ := hI
  obtain ⟨h3a, ⟨h30, h31, h32, h33⟩, ⟨h34, h35, h36⟩, h3p, h38, h39, h3x⟩ := h3
  obtain ⟨h5a, ⟨h560, h561⟩, ⟨h563, h564⟩, h562, h5g, h5s⟩ := h5
  obtain ⟨hma, ⟨hm4, hm5, hm6, hm7⟩, ⟨hm8, hm31', hm9, hm1, hmk⟩, ⟨hm31, hm32, hm33⟩, ⟨hm34, hm35, hm36⟩, ⟨hm38, hm39, hm40, hm41, hm42⟩, hm37⟩ := hm
  have b8 : ∀ q, q ≠ 0 → q ≠ 1 → ∀ j, rd M8 q j = rd M5 q j := fun q h0 h1 j => by rw [e8, wr_n h0, e7, wr_n h0, e6, wr_n h1]
  have k8 : ∀ q, q ≠ 0 → q ≠ 1 → ¬ (3 ≤ q ∧ q ≤ 6) → ¬ (8 ≤ q ∧ q ≤ 14) → ¬ (59 ≤ q ∧ q ≤ 64) → ∀ j, rd M8 q j = rd M q j := fun q h0 h1 y1 y2 y3 j => by rw [b8 q h0 h1, h5a q y3, h3a q y1 y2, f2.1 q h1]
  have cf : ∀ q, q ≠ 29 → ¬ (31 ≤ q ∧ q ≤ 42) → q ≠ 0 → q ≠ 1 → ∀ j, rd Mf q j = rd M5 q j := fun q y1 y2 y3 y4 j => by rw [hma q y1 y2, b8 q y3 y4]
  have kf : ∀ q, (q = 2 ∨ q = 30 ∨ 52 ≤ q ∧ q ≤ 58 ∨ 65 ≤ q ∧ q ≤ 74) → ∀ j, rd Mf q j = rd M q j := fun q hq j => by rw [hma q (by omega) (by omega), k8 q (by omega) (by omega) (by omega) (by omega) (by omega)]
  have c3 : ∀ q, 3 ≤ q ∧ q ≤ 14 → ∀ j, rd Mf q j = rd M3 q j := fun q hq j => by rw [cf q (by omega) (by omega) (by omega) (by omega), h5a q (by omega)]
  have F4 := fl_of (fl_to h34 (c3 4 (by omega))) (f2.1 4 (by omega))
  have F5 := fl_of (fl_to h35 (c3 5 (by omega))) (f2.1 5 (by omega))
  have F6 := fl_of (fl_to h36 (c3 6 (by omega))) (f2.1 6 (by omega))
  have F8 := fl_of (fl_to h38 (c3 8 (by omega))) (f2.1 8 (by omega))
  have F9 := fl_of (fl_to h39 (c3 9 (by omega))) (f2.1 9 (by omega))
  have F10 := fl_of (fl_to h3x (c3 10 (by omega))) (f2.1 10 (by omega))
  have Fp : ∀ p, p < 4 → rd Mf (11 + p) 0 = if p < pe then ixU 1 (lt (2 + 4 * dr + 4 * p)) else rd M (11 + p) 0 := fun p hp4 => by rw [c3 (11 + p) (by omega), h3p p hp4, f2.1 (11 + p) (by omega)]
  have b3 : ∀ q, 59 ≤ q ∧ q ≤ 64 → ∀ j, rd M3 q j = rd M q j := fun q hq j => by rw [h3a q (by omega) (by omega), f2.1 q (by omega)]
  have c5 : ∀ q, 59 ≤ q ∧ q ≤ 64 → ∀ j, rd Mf q j = rd M5 q j := fun q hq j => cf q (by omega) (by omega) (by omega) (by omega) j
  have F60 := fl_of (fl_to h560 (c5 60 (by omega))) (b3 60 (by omega))
  have F61 := fl_of (fl_to h561 (c5 61 (by omega))) (b3 61 (by omega))
  have F62 := fl_of (fl_to h562 (c5 62 (by omega))) (b3 62 (by omega))
  have F63 := fl_of (fl_to h563 (c5 63 (by omega))) (b3 63 (by omega))
  have F64 := fl_of (fl_to h564 (c5 64 (by omega))) (b3 64 (by omega))
  have o8 : ∀ q, 31 ≤ q ∧ q ≤ 42 → ∀ j, rd M8 q j = rd M q j := fun q hq j => k8 q (by omega) (by omega) (by omega) (by omega) (by omega) j
  have F31 := fl_of hm31 (o8 31 (by omega))
  have F32 := fl_of hm32 (o8 32 (by omega))
  have F33 := fl_of hm33 (o8 33 (by omega))
  have F34 := fl_of hm34 (o8 34 (by omega))
  have F35 := fl_of hm35 (o8 35 (by omega))
  have F36 := fl_of hm36 (o8 36 (by omega))
  have F37 := fl_of hm37 (o8 37 (by omega))
  have F38 := fl_of hm38 (o8 38 (by omega))
  have F39 := fl_of hm39 (o8 39 (by omega))
  have F40 := fl_of hm40 (o8 40 (by omega))
  have F41 := fl_of hm41 (o8 41 (by omega))
  have F42 := fl_of hm42 (o8 42 (by omega))
  have g8 : rd Mf 59 8 = nI 0 := by rw [c5 59 (by omega), h5s]; rfl
  have g9 : rd Mf 59 9 = nI 0 := by rw [c5 59 (by omega), h5g]; rfl
  have z09 : rd M8 29 9 = rd M 29 9 := k8 29 (by omega) (by omega) (by omega) (by omega) (by omega) 9
  have zk : ∀ j, 34 ≤ j → rd Mf 29 j = rd M 29 j := fun j hj => by rw [hmk j hj, k8 29 (by omega) (by omega) (by omega) (by omega) (by omega)]
  refine ⟨hn, R, dr, pe, de, ?_, ⟨fun i hi => ?_, fun p hp4 => ?_, fun i hi => ?_⟩, ⟨eq_fl F4 F31 hr.1, eq_fl F5 F32 hr.2.1, eq_fl F6 F33 hr.2.2.1, fun p hp4 => ?_, eq_fl F8 F38 hr.2.2.2.2.1, eq_fl F9 F39 hr.2.2.2.2.2.1, eq_fl F10 F40 hr.2.2.2.2.2.2⟩, ⟨eq_fl F60 F35 ha.1, eq_fl F61 F36 ha.2.1, eq_fl F62 F37 ha.2.2.1, eq_fl F63 F41 ha.2.2.2.1, eq_fl F64 F42 ha.2.2.2.2.1, ?_, ?_, fun j hj => ?_⟩, ⟨fun p hpp => ?_, fun _ i hi => ?_, fun i hi => ?_, fun i hi => ?_, ⟨0, by omega, g8, fun j hj => absurd hj (Nat.not_lt_zero _)⟩, fun j hj => ?_, ⟨0, by omega, g9⟩⟩, ⟨fun j => ?_, fun j => ?_, fun j => ?_, fun j => ?_, fun j => ?_, ?_, ?_, fun j hj => ?_⟩, fun z => ?_, ⟨0, by omega, ?_, ?_, fun j => ?_, fun j hj => absurd hj (Nat.not_lt_zero _)⟩, ⟨k + 1, by omega, ?_, ?_, Or.inr ⟨?_, ?_⟩⟩⟩
  · refine ⟨?_, ?_, ?_, ?_, hm4, hm5, hm6, hm7, hR6, by omega, by omega, by omega, Or.inr ⟨hR2, by omega, by omega, by omega⟩⟩
    · rw [c3 3 (by omega), h30]
    · rw [c3 3 (by omega), h31]
    · rw [c3 3 (by omega), h32]
    · rw [c3 3 (by omega), h33]
  · obtain ⟨g0, g1, g2, g3⟩ := cd i hi
    refine ⟨lt (2 + 4 * i) - 48, lt (2 + 4 * i + 1) - 48, by omega, by omega, by omega, fl_at F4 hi, fl_at F5 hi, ?_⟩
    rw [fl_at F6 hi]
    exact lk_3 g3
  · rw [Fp p hp4]
    by_cases e : p < pe
    · rw [if_pos e]
      exact kd_nI (cp' p e).1
    · rw [if_neg e]
      exact hw.2.1 p hp4
  · obtain ⟨g0, g1, g2, g3, g4⟩ := ck i hi
    exact ⟨lt (2 + 4 * dr + 4 * pe + 5 * i) - 48, lt (2 + 4 * dr + 4 * pe + 5 * i + 1) - 48, lt (2 + 4 * dr + 4 * pe + 5 * i + 2) - 48, by omega, by omega, by omega, by omega, fl_at F8 hi, fl_at F9 hi, fl_at F10 hi⟩
  · rw [Fp p hp4, F34 p]
    by_cases e : p < pe
    · rw [if_pos e, if_pos e]
    · rw [if_neg e, if_neg e]
      exact hr.2.2.2.1 p hp4
  · rw [g8, hm31']
    rfl
  · rw [g9, hm8]
    rfl
  · have h := ha.2.2.2.2.2.2.2 j hj
    rw [kf (59 + 6) (by omega), kf (59 + 7) (by omega), kf 52 (by omega), kf 52 (by omega)]
    exact h
  · obtain ⟨g0, g1, g2⟩ := cp' p hpp
    exact ⟨lt (2 + 4 * dr + 4 * p + 2) - 48, by omega, fl_at F61 hpp⟩
  · exact ⟨i, by omega, fl_at F62 hi⟩
  · obtain ⟨g0, g1, g2, g3, g4⟩ := ck i hi
    exact ⟨lt (2 + 4 * dr + 4 * pe + 5 * i + 3) - 48, by omega, by omega, fl_at F63 hi⟩
  · have e := F64 i
    show zb (rd Mf 64 i)
    rw [e]
    by_cases e2 : i < de
    · rw [if_pos e2]
      exact z0
    · rw [if_neg e2]
      exact haw.2.2.2.1 i hi
  · rw [kf (59 + 7) (by omega)]
    exact haw.2.2.2.2.2.1 j hj
  · rw [kf (67 + 1) (by omega), kf 53 (by omega)]
    exact hak.1 j
  · rw [kf (67 + 2) (by omega), kf 54 (by omega)]
    exact hak.2.1 j
  · rw [kf (67 + 3) (by omega), kf 55 (by omega)]
    exact hak.2.2.1 j
  · rw [kf (67 + 4) (by omega), kf 56 (by omega)]
    exact hak.2.2.2.1 j
  · rw [kf (67 + 5) (by omega), kf 57 (by omega)]
    exact hak.2.2.2.2.1 j
  · rw [kf 67 (by omega), zk 36 (by omega)]
    exact hak.2.2.2.2.2.1
  · rw [kf 67 (by omega), zk 35 (by omega)]
    exact hak.2.2.2.2.2.2.1
  · rw [kf (67 + 6) (by omega), kf (67 + 7) (by omega), kf 58 (by omega), kf 58 (by omega)]
    exact hak.2.2.2.2.2.2.2 j hj
  · rw [hma 0 (by omega) (by omega), e8, wr_k 0 (by omega), e7, wr_s] at z
    exact absurd z (by decide)
  · rw [hma 1 (by omega) (by omega), e8, wr_n (by omega), e7, wr_n (by omega), e6, wr_s]
    rfl
  · rw [hm1]
    rfl
  · rw [kf 2 (by omega), kf 30 (by omega)]
    obtain ⟨l', -, -, -, y, -⟩ := hpg
    exact y j
  · rw [hma 0 (by omega) (by omega), e8, wr_s, e7, wr_k 0 (by omega), e6, wr_n (by omega), h5a 0 (by omega), h3a 0 (by omega) (by omega), f2.1 0 (by omega), k2, nI_1]
  · rw [hm9, z09, k3, nI_1]
  · rw [hma 0 (by omega) (by omega), e8, wr_k 0 (by omega), e7, wr_s]
  · rw [zk 34 (by omega)]
    rcases k4 with ⟨-, y⟩ | ⟨-, y | ⟨j, hj, y⟩⟩
    · exact Or.inr ⟨k, by omega, y⟩
    · exact Or.inl y
    · exact Or.inr ⟨j, by omega, y⟩
theorem JS.whole {lt : Nat → Nat} {l : Nat} {s : ST} (h : JS lt l s) : (whB s = 0 ∧ (pEf s.1 s.2.2.2.2.1 s.2.2.2.2.2.1 = 0 ∨ 0 < pEf s.1 s.2.2.2.2.1 s.2.2.2.2.2.1 ∧ pEf s.1 s.2.2.2.2.1 s.2.2.2.2.2.1 ≤ l ∧ (l - pEf s.1 s.2.2.2.2.1 s.2.2.2.2.2.1) % 5 ≠ 0)) ∨ ∃ fi R dr pe de, s = (3, 4, fi, R, dr, pe, de) ∧ CTn lt R dr pe de ∧ (1 ≤ dr ∧ dr ≤ 6) ∧ (2 ≤ pe ∧ pe ≤ 4) ∧ (1 ≤ de ∧ de ≤ 4) ∧ l = 4 * dr + 4 * pe + 5 * de + 1 := by
  obtain ⟨fi, R, dr, pe, de, H⟩ := h
  rcases H with ⟨rfl, H⟩ | ⟨rfl, H⟩ | ⟨rfl, H⟩ | ⟨rfl, H⟩ | ⟨rfl, H⟩ | ⟨rfl, H⟩ | ⟨rfl, H⟩ | ⟨rfl, H⟩ | ⟨rfl, H⟩ | ⟨rfl, H⟩ | ⟨rfl, H⟩ | ⟨rfl, H⟩ | ⟨rfl, H⟩ | ⟨rfl, H⟩ | ⟨rfl, H⟩
  · exact Or.inl ⟨rfl, Or.inl rfl⟩
  · exact Or.inl ⟨rfl, Or.inl rfl⟩
  · exact Or.inl ⟨rfl, Or.inl rfl⟩
  · exact Or.inl ⟨rfl, Or.inl rfl⟩
  · exact Or.inl ⟨rfl, Or.inl rfl⟩
  · exact Or.inl ⟨rfl, Or.inl rfl⟩
  · exact Or.inl ⟨rfl, Or.inl rfl⟩
  · exact Or.inl ⟨rfl, Or.inl rfl⟩
  · exact Or.inl ⟨rfl, Or.inl rfl⟩
  · exact Or.inl ⟨rfl, Or.inl rfl⟩
  · refine Or.inl ⟨rfl, Or.inr ?_⟩
    show 0 < 4 * dr + 4 * pe + 1 ∧ 4 * dr + 4 * pe + 1 ≤ l ∧ (l - (4 * dr + 4 * pe + 1)) % 5 ≠ 0
    omega
  · refine Or.inl ⟨rfl, Or.inr ?_⟩
    show 0 < 4 * dr + 4 * pe + 1 ∧ 4 * dr + 4 * pe + 1 ≤ l ∧ (l - (4 * dr + 4 * pe + 1)) % 5 ≠ 0
    omega
  · refine Or.inl ⟨rfl, Or.inr ?_⟩
    show 0 < 4 * dr + 4 * pe + 1 ∧ 4 * dr + 4 * pe + 1 ≤ l ∧ (l - (4 * dr + 4 * pe + 1)) % 5 ≠ 0
    omega
  · refine Or.inl ⟨rfl, Or.inr ?_⟩
    show 0 < 4 * dr + 4 * pe + 1 ∧ 4 * dr + 4 * pe + 1 ≤ l ∧ (l - (4 * dr + 4 * pe + 1)) % 5 ≠ 0
    omega
  · exact Or.inr ⟨fi, R, dr, pe, de, rfl, H⟩
theorem op_house {n : Nat} {M : Mem} {K : Mem → Prop} (hI : Inv n M) (hn : n + 1 ≤ 64) (hK : ∀ M', Inv (n + 1) M' → K M') : wp_X11_house (fun r M1 => wp_X12_house (fun r' M2 => (r = r' → K M2) ∧ (¬ r = r' → False)) M1) M := by
  obtain ⟨lt, l, hl, hlt, p1, p2, pc⟩ := hI.lts
  have up : ∀ {M'}, Fr M M' → Inv (n + 1) M' := fun f => (f.inv hI).up (by omega) hn
  rcases page_run hl hlt with ⟨F, hF, sc, sm⟩ | ⟨s, hs, sc, sm⟩
  · refine sc M _ pc (fun M1 f1 q1 => ⟨fun z => absurd q1.2 z, fun _ => ?_⟩)
    have p1' : rd M1 29 1 = nI l := (f1.1 29 (by omega) 1).trans p1
    intro P92 P165 P241 h92 h165 h241
    refine sm M1 _ p1' (fun j hj => (f1.1 30 (by omega) j).trans (p2 j hj)) (fun M2 f2 _ => ⟨fun _ => fin_eq rfl (hK _ (up (f1.fr.tr f2.fr))), fun z => absurd ?_ z⟩)
    rw [f2.2 1 (by omega) (by omega), p1']
    exact nI_lt hF (by omega)
  · rcases hs.whole with ⟨wh, pz⟩ | ⟨fi, R, dr, pe, de, rfl, ct, hd, hp, hk, el⟩
    · refine sc M _ pc (fun M1 f1 q1 => ⟨fun z => absurd (q1.2.2.trans wh) z, fun _ => ?_⟩)
      have p1' : rd M1 29 1 = nI l := (f1.1 29 (by omega) 1).trans p1
      intro P92 P165 P241 h92 h165 h241
      refine sm M1 _ p1' (fun j hj => (f1.1 30 (by omega) j).trans (p2 j hj)) (fun M2 f2 m2 => ?_)
      have done : (-103 : Int32) = -103 → K M2 := fun _ => hK _ (up (f1.fr.tr f2.fr))
      refine ⟨fun _ => ⟨done, fun z => absurd rfl z⟩, fun _ => ⟨fun _ => ⟨done, fun z => absurd rfl z⟩, fun y => ⟨fun x => ?_, fun _ => ⟨done, fun z => absurd rfl z⟩⟩⟩⟩
      rw [m2.1, m2.2.2.2] at x
      rw [m2.2.2.2] at y
      rcases pz with e | ⟨e1, e2, e3⟩
      · rw [e] at y
        exact absurd (by rfl) y
      · rw [pk_sub e2, mk_res rfl (by omega)] at x
        have : (l - pEf s.1 s.2.2.2.2.1 s.2.2.2.2.2.1) % 5 = 0 := (eq_lit (y := 0) (by omega) (by omega)).mp x
        exact absurd this e3
    · have g : PGW lt l R dr pe de := ⟨ct, hd, hp, hk, el, hl, hlt⟩
      refine sc M _ pc (fun M1 f1 q1 => ⟨fun _ => ?_, fun z => absurd (q1.2.2.symm.trans z) (by show ¬ (1 : Int32) = 0; decide)⟩)
      have c1 : CS M1 3 4 fi R dr pe de := q1.2.1
      have w1 : WC lt l R dr pe de M1 := ⟨c1.2.2.2.1, c1.2.2.2.2.1, c1.2.2.2.2.2.1, c1.2.2.2.2.2.2, (pc.to f1).2⟩
      refine sp_readHouse w1 g (fun M3 h3 => ?_)
      refine sp_readAffairs (w1.to (fun q hq j => h3.1 q (by omega) (by omega) j)) g (fun M5 h5 M6 e6 M7 e7 M8 e8 => ?_)
      have u : ∀ q, q = 29 ∨ q = 30 → ∀ j, rd M8 q j = rd M q j := fun q hq j => by rw [e8, wr_n (by omega), e7, wr_n (by omega), e6, wr_n (by omega), h5.1 q (by omega), h3.1 q (by omega) (by omega), f1.1 q (by omega)]
      have r8 : rd M8 3 2 = nI pe := by rw [e8, wr_n (by omega), e7, wr_n (by omega), e6, wr_n (by omega), h5.1 3 (by omega), h3.2.1.2.2.1]
      rw [r8]
      exact sp_house_m g sm ((u 29 (by omega) 1).trans p1) (fun j hj => (u 30 (by omega) j).trans (p2 j hj)) (fun M9 hm => fin_eq rfl (hK _ (inv_house hI hn g f1 h3 h5 e6 e7 e8 hm)))
