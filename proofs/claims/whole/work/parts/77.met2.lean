/-! ===== how likely one is met: class and model ===== -/
theorem sp_spreadFrom {Post : Mem → Prop} {M : Mem} {o a b c d p r u : Nat} {x y : Nat → Nat} (hC : CO M o a b c d) (ho : 59 ≤ o) (hp : p < 4) (hr : r < a) (e17 : rd M 17 r = nI (60 * u * x r)) (hb : 60 * u * x r < 2 ^ 31) (e18 : ∀ j, j < 6 → rd M 18 j = nI (u * y j)) (h : ∀ M', FQ 18 M M' → (∀ j, j < 6 → rd M' 18 j = nI (u * spR (stC M o) p b x r y j)) → Post M') : wp_X10_spreadFrom Post M o (nI p) (nI r) := by
  intro P6 P74 h6 h74
  have hB := hC.2.2.2.2.1
  unfold BD at hB
  have n1 := cl4 (p := r) (by omega)
  have v6 : vp_in (nI r) 6 := vp_in_nI (by omega) (by omega)
  have wl : wyN (stC M o) p b r ≤ 6 := Nat.le_trans (cn_le _ b) (by omega)
  refine for_acc (P := P6) (n := b) (fun i => nI (cnN (fun k => goB (stC M o) p k (nI r)) i)) (h6 _ _ _ ⟨fun _ => ?_, fun z => absurd (by rw [hC.2.1]; exact Int32.le_refl _) z⟩) (fun i hi ih => h6 _ _ _ ⟨fun z => absurd z (by rw [hC.2.1]; exact le_n (by omega) hi), fun _ => ?_⟩)
  · show (¬ nI (wyN (stC M o) p b r) = 0 → P74 M (nI (wyN (stC M o) p b r)) 0) ∧ (nI (wyN (stC M o) p b r) = 0 → _)
    unfold spR at h
    by_cases w0 : wyN (stC M o) p b r = 0
    · refine ⟨fun z => absurd (by rw [w0]; rfl) z, fun _ => ⟨v6, v6, v6, ?_⟩⟩
      rintro M1 rfl
      rw [n1]
      refine h _ FQ.wr (fun j hj => ?_)
      rw [if_pos w0, wr_q]
      unfold adN
      by_cases e : j = r
      · rw [if_pos e, if_pos e, e, e18 r (by omega), e17, nI_add, Nat.mul_add]
        congr 1
        ac_rfl
      · rw [if_neg e, if_neg e, e18 j hj]
    · refine ⟨fun _ => ?_, fun z => absurd z (nI_ne0 (by omega) (by omega))⟩
      rw [if_neg w0] at h
      generalize wyN (stC M o) p b r = w at w0 wl h ⊢
      refine for_up (S := Mem) (P := fun s i => P74 s (nI w) i) (n := b) (fun i s => FQ 18 M s ∧ ∀ j, j < 6 → rd s 18 j = nI (u * spD (stC M o) p r (60 / w * x r) y i j)) (fun s hs => ?_) (fun i s hi hs ih => ?_) 0 (Nat.zero_le _) M ⟨FQ.rf _ _, e18⟩
      · have hC' := hs.1.co (by omega) (by omega) hC
        exact h74 _ _ _ ⟨fun _ => h s hs.1 hs.2, fun z => absurd (by rw [hC'.2.1]; exact Int32.le_refl _) z⟩
      · obtain ⟨f, e⟩ := hs
        have hC' := f.co (by omega) (by omega) hC
        have hH := f.stC (o := o) (by omega) (by omega)
        refine h74 _ _ _ ⟨fun z => absurd z (by rw [hC'.2.1]; exact le_n (by omega) hi), fun _ => ?_⟩
        obtain ⟨t, ht, et⟩ := by_lt (r := nI r) hC.2.2.2.2.2 hi
        have n2 := cl4 (p := t) (by omega)
        have v2 : vp_in (nI t) 6 := vp_in_nI (by omega) (by omega)
        have eg : goB (stC M o) p i (nI r) = (atB (stC M o) i (nI r) && pasB (stC M o) p i) := rfl
        have ih := fun s' (z : FQ 18 M s' ∧ ∀ j, j < 6 → rd s' 18 j = nI (u * spD (stC M o) p r (60 / w * x r) y (i + 1) j)) => ih s' z
        rw [spD, eg] at ih
        rw [eqc_at hC' hi, hH]
        by_cases g1 : atB (stC M o) i (nI r) = true
        · rw [if_pos g1]
          refine ⟨fun q => absurd q (by decide), fun _ => ?_⟩
          rw [eqc_pass hC' hp hi, hH]
          by_cases g2 : pasB (stC M o) p i = true
          · rw [if_pos g2]
            refine ⟨fun q => absurd q (by decide), fun _ => ?_⟩
            rw [if_pos (by rw [g1, g2]; rfl), et, n2] at ih
            rw [eqc_by hC' hi, hH, et, n1, n2, f.1 17 (by omega), e17, pk_div hb (by omega) (by omega), dv60 w0 wl]
            refine ⟨v2, v6, nI_ne0 (by omega) (by omega), v2, ?_⟩
            rintro M18 rfl x5 rfl
            rw [nI_1]
            refine ih _ ⟨f.tr FQ.wr, fun j hj => ?_⟩
            rw [wr_q]
            unfold adN
            by_cases ej : j = t
            · rw [if_pos ej, if_pos ej, ej, e t (by omega), nI_add, Nat.mul_add]
            · rw [if_neg ej, if_neg ej, e j hj]
          · rw [if_neg g2]
            refine ⟨fun _ x5 hx5 => ?_, fun q => absurd rfl q⟩
            rw [hx5, nI_1]
            rw [if_neg (by rw [Bool.and_eq_true]; exact fun q => g2 q.2)] at ih
            exact ih s ⟨f, e⟩
        · rw [if_neg g1]
          refine ⟨fun _ x5 hx5 => ?_, fun q => absurd rfl q⟩
          rw [hx5, nI_1]
          rw [if_neg (by rw [Bool.and_eq_true]; exact fun q => g1 q.1)] at ih
          exact ih s ⟨f, e⟩
  · have eg : goB (stC M o) p i (nI r) = (atB (stC M o) i (nI r) && pasB (stC M o) p i) := rfl
    rw [cnN, eg] at ih
    rw [eqc_at hC hi]
    by_cases g1 : atB (stC M o) i (nI r) = true
    · rw [if_pos g1]
      refine ⟨fun q => absurd q (by decide), fun _ => ?_⟩
      rw [eqc_pass hC hp hi]
      by_cases g2 : pasB (stC M o) p i = true
      · rw [if_pos g2]
        refine ⟨fun q => absurd q (by decide), fun _ x4 hx4 x5 hx5 => ?_⟩
        rw [if_pos (by rw [g1, g2]; rfl)] at ih
        rw [hx4, hx5, nI_1, nI_1]
        exact ih
      · rw [if_neg g2]
        refine ⟨fun _ x5 hx5 => ?_, fun q => absurd rfl q⟩
        rw [hx5, nI_1]
        rw [if_neg (by rw [Bool.and_eq_true]; exact fun q => g2 q.2)] at ih
        exact ih
    · rw [if_neg g1]
      refine ⟨fun _ x5 hx5 => ?_, fun q => absurd rfl q⟩
      rw [hx5, nI_1]
      rw [if_neg (by rw [Bool.and_eq_true]; exact fun q => g1 q.1)] at ih
      exact ih
theorem spD_0 {H : Nat → Nat → Int32} {p r : Nat} {y : Nat → Nat} : ∀ n, spD H p r 0 y n = y := by
  intro n
  induction n with
  | zero => rfl
  | succ n ih =>
    rw [spD, ih]
    by_cases g : goB H p n (nI r) = true
    · rw [if_pos g]
      funext j
      unfold adN
      by_cases e : j = (byH H n (nI r)).toNatClampNeg
      · rw [if_pos e, Nat.add_zero]
      · rw [if_neg e]
    · rw [if_neg g]
theorem spR_0 {H : Nat → Nat → Int32} {p b r : Nat} {x y : Nat → Nat} (h : x r = 0) : spR H p b x r y = y := by
  unfold spR
  rw [h, Nat.mul_zero, Nat.mul_zero, spD_0]
  by_cases e : wyN H p b r = 0
  · rw [if_pos e]
    funext j
    unfold adN
    by_cases e2 : j = r
    · rw [if_pos e2, Nat.add_zero]
    · rw [if_neg e2]
  · rw [if_neg e]
theorem sp_spread {Post : Mem → Prop} {M : Mem} {o a b c d p u : Nat} {x : Nat → Nat} (hC : CO M o a b c d) (ho : 59 ≤ o) (hp : p < 4) (hu : 0 < u) (e17 : ∀ j, j < 6 → rd M 17 j = nI (60 * u * x j)) (hb : ∀ j, j < 6 → 60 * u * x j < 2 ^ 31) (h : ∀ M', FJ 17 18 M M' → (∀ j, j < 6 → rd M' 17 j = nI (u * spU (stC M o) p b x a j)) → Post M') : wp_X10_spread Post M o (nI p) := by
  intro P2 P23 P58 h2 h23 h58
  have hB := hC.2.2.2.2.1
  unfold BD at hB
  have l3 : ∀ s, FJ 17 18 M s → (∀ j, j < 6 → rd s 18 j = nI (u * spU (stC M o) p b x a j)) → P58 s 0 := by
    intro s0 f0 g0
    refine for_up (S := Mem) (P := P58) (n := 6) (fun i s => FJ 17 18 M s ∧ (∀ j, j < 6 → rd s 18 j = nI (u * spU (stC M o) p b x a j)) ∧ ∀ j, j < i → rd s 17 j = nI (u * spU (stC M o) p b x a j)) (fun s hs => ?_) (fun i s hi hs ih => ?_) 0 (Nat.zero_le _) s0 ⟨f0, g0, fun j hj => absurd hj (Nat.not_lt_zero _)⟩
    · exact h58 _ _ ⟨fun _ => h s hs.1 hs.2.2, fun z => absurd (Int32.le_refl _) z⟩
    · obtain ⟨f, g, k⟩ := hs
      have n1 := cl4 (p := i) (by omega)
      have v6 : vp_in (nI i) 6 := vp_in_nI hi (by omega)
      refine h58 _ _ ⟨fun z => absurd z (le_n (n := 6) (by omega) hi), fun _ => ⟨v6, v6, ?_⟩⟩
      rintro M7 rfl x3 rfl
      rw [nI_1, n1]
      refine ih _ ⟨f.tr (FJ.wr (by omega) (by omega)), fun j hj => ?_, fun j hj => ?_⟩
      · rw [wr_n (by omega)]; exact g j hj
      · rw [wr_q]
        by_cases e : j = i
        · rw [if_pos e, e]; exact g i hi
        · rw [if_neg e]; exact k j (by omega)
  have l2 : ∀ s, FQ 18 M s → (∀ j, j < 6 → rd s 18 j = 0) → P23 s 0 := by
    intro s0 f0 g0
    refine for_up (S := Mem) (P := P23) (n := a) (fun i s => FQ 18 M s ∧ ∀ j, j < 6 → rd s 18 j = nI (u * spU (stC M o) p b x i j)) (fun s hs => ?_) (fun i s hi hs ih => ?_) 0 (Nat.zero_le _) s0 ⟨f0, g0⟩
    · have hC' := hs.1.co (by omega) (by omega) hC
      exact h23 _ _ ⟨fun _ => l3 s (hs.1.fj (by omega) (by omega)) hs.2, fun z => absurd (by rw [hC'.1]; exact Int32.le_refl _) z⟩
    · obtain ⟨f, g⟩ := hs
      have hC' := f.co (by omega) (by omega) hC
      have hH := f.stC (o := o) (by omega) (by omega)
      have n1 := cl4 (p := i) (by omega)
      have v6 : vp_in (nI i) 6 := vp_in_nI (by omega) (by omega)
      have q17 : rd s 17 i = nI (60 * u * x i) := by rw [f.1 17 (by omega)]; exact e17 i (by omega)
      have hbi := hb i (by omega)
      refine h23 _ _ ⟨fun z => absurd z (by rw [hC'.1]; exact le_n (by omega) hi), fun _ => ?_⟩
      rw [n1, q17]
      refine ⟨v6, fun z x3 hx3 => ?_, fun z => ?_⟩
      · have x0 : x i = 0 := by
          have z1 : nI (60 * u * x i) ≤ nI 0 := z
          have z2 := (nI_leI hbi (by omega)).mp z1
          have z3 : 60 * u * x i = 0 := by omega
          rcases Nat.mul_eq_zero.mp z3 with z4 | z4
          · omega
          · exact z4
        rw [hx3, nI_1]
        refine ih s ⟨f, ?_⟩
        rw [spU, spR_0 x0]; exact g
      · refine sp_spreadFrom (x := x) (y := spU (stC M o) p b x i) (u := u) hC' ho hp hi q17 hbi g (fun M5 f5 g5 => ?_)
        intro x3 hx3
        rw [hx3, nI_1]
        rw [hH] at g5
        exact ih M5 ⟨f.tr f5, g5⟩
  refine for_up (S := Mem) (P := P2) (n := 6) (fun i s => FQ 18 M s ∧ ∀ j, j < i → rd s 18 j = 0) (fun s hs => ?_) (fun i s hi hs ih => ?_) 0 (Nat.zero_le _) M ⟨FQ.rf _ _, fun j hj => absurd hj (Nat.not_lt_zero _)⟩
  · exact h2 _ _ ⟨fun _ => l2 s hs.1 hs.2, fun z => absurd (Int32.le_refl _) z⟩
  · have n1 := cl4 (p := i) (by omega)
    refine h2 _ _ ⟨fun z => absurd z (le_n (n := 6) (by omega) hi), fun _ => ⟨vp_in_nI hi (by omega), ?_⟩⟩
    rintro M1 rfl x3 rfl
    rw [nI_1, n1]
    refine ih _ ⟨hs.1.tr FQ.wr, fun j hj => ?_⟩
    rw [wr_q]
    by_cases e : j = i
    · rw [if_pos e]
    · rw [if_neg e]; exact hs.2 j (by omega)
theorem sp_metParts {Post : Int32 → Mem → Prop} {M : Mem} {o a b c d p s t n : Nat} (hC : CO M o a b c d) (ho : 59 ≤ o) (hp : p < 4) (hs : s < a) (ht : t < a) (er : rd M (o + 2) p = nI s) (hn1 : 1 ≤ n) (hn : n ≤ 3) (h : ∀ M', FJ 17 18 M M' → Post (nI (scN n * upN (stC M o) p a b s t n)) M') : wp_X10_metParts Post M o (nI p) (nI t) (nI n) := by
  intro P20 P56 h20 h56
  have hB := hC.2.2.2.2.1
  have hB2 := hB
  unfold BD at hB
  have hH := hC.2.2.2.2.2
  have n1 := cl4 (p := p) (by omega)
  have ns := cl4 (p := s) (by omega)
  have nt := cl4 (p := t) (by omega)
  refine ⟨vp_in_nI hp (by omega), fun x5 hx5 => ?_⟩
  rw [n1, er] at hx5
  rw [hx5]
  refine ⟨fun z => ?_, fun z => ?_⟩
  · have hst : ¬ s = t := fun y => z (by rw [y])
    have hours : ∀ N, FJ 17 18 M N → (∀ j, j < 6 → rd N 17 j = nI (scN 0 * mtN (stC M o) p a b s t 0 j)) → P56 N 0 0 := by
      intro N0 f0 g0
      have e0 : (0 : Int32) = nI (scN 0 * upN (stC M o) p a b s t 0) := by
        unfold upN
        rw [mt_one (by omega) hst]; rfl
      have st0 : P56 N0 (nI (scN 0 * upN (stC M o) p a b s t 0)) 0 := by
        refine for_up (S := Mem × Int32) (P := fun q i => P56 q.1 q.2 i) (n := n) (fun i q => FJ 17 18 M q.1 ∧ (∀ j, j < 6 → rd q.1 17 j = nI (scN i * mtN (stC M o) p a b s t i j)) ∧ q.2 = nI (scN i * upN (stC M o) p a b s t i)) (fun q hq => ?_) (fun i q hi hq ih => ?_) 0 (Nat.zero_le _) (N0, _) ⟨f0, g0, rfl⟩
        · obtain ⟨f, g, e⟩ := hq
          have := h q.1 f
          rw [← e] at this
          exact h56 _ _ _ ⟨fun _ => this, fun y => absurd (Int32.le_refl _) y⟩
        · obtain ⟨N, v6⟩ := q
          obtain ⟨f, g, e⟩ := hq
          have f : FJ 17 18 M N := f
          have g : ∀ j, j < 6 → rd N 17 j = nI (scN i * mtN (stC M o) p a b s t i j) := g
          have e : v6 = nI (scN i * upN (stC M o) p a b s t i) := e
          have hC' := f.co (by omega) (by omega) hC
          have hHH := f.stC (o := o) (by omega) (by omega)
          refine h56 _ _ _ ⟨fun y => absurd y (le_n (by omega) hi), fun _ => ?_⟩
          have es := sc_s (i := i) (by omega)
          refine sp_spread (u := scN (i + 1)) (x := mtN (stC M o) p a b s t i) hC' ho hp (sc_pos (by omega)) (fun j hj => by rw [← es]; exact g j hj) (fun j hj => by rw [← es]; exact Nat.lt_of_le_of_lt (mt_lt hB2 hH hs ht (by omega) hj) (by decide)) (fun N6 f6 g6 => ?_)
          rw [hHH] at g6
          rw [nt]
          refine ⟨vp_in_nI (by omega) (by omega), fun x6 hx6 => ⟨vp_in_nI (by omega) (by omega), ?_⟩⟩
          rintro N8 rfl x7 rfl
          rw [nI_1]
          refine ih (wr N6 17 t 0, x6) ⟨(f.tr f6).tr (FJ.wr (by omega) (by omega)), fun j hj => ?_, ?_⟩
          · show rd (wr N6 17 t 0) 17 j = _
            rw [wr_q]
            show _ = nI (scN (i + 1) * (if j = t then 0 else spU (stC M o) p b (mtN (stC M o) p a b s t i) a j))
            by_cases ej : j = t
            · rw [if_pos ej, if_pos ej, Nat.mul_zero]; rfl
            · rw [if_neg ej, if_neg ej]; exact g6 j hj
          · show x6 = _
            rw [hx6, e, g6 t (by omega), nI_add, up_next hB2 hH hs ht (by omega)]
      rw [← e0] at st0
      exact st0
    refine for_up (S := Mem) (P := fun N i => P20 N (nI s) i) (n := 6) (fun i N => FJ 17 18 M N ∧ ∀ j, j < i → rd N 17 j = 0) (fun N hN => ?_) (fun i N hi hN ih => ?_) 0 (Nat.zero_le _) M ⟨FJ.rf _ _ _, fun j hj => absurd hj (Nat.not_lt_zero _)⟩
    · refine h20 _ _ _ ⟨fun _ => ⟨vp_in_nI (by omega) (by omega), ?_⟩, fun y => absurd (Int32.le_refl _) y⟩
      rintro M2 rfl
      rw [ns]
      refine hours _ (hN.1.tr (FJ.wr (by omega) (by omega))) (fun j hj => ?_)
      rw [wr_q]
      show _ = nI (scN 0 * (if j = s ∧ ¬ j = t then 1 else 0))
      by_cases e : j = s
      · rw [if_pos e, if_pos ⟨e, fun y => hst (e.symm.trans y)⟩]; rfl
      · rw [if_neg e, if_neg (fun y => e y.1), hN.2 j hj]; rfl
    · have ni := cl4 (p := i) (by omega)
      refine h20 _ _ _ ⟨fun y => absurd y (le_n (n := 6) (by omega) hi), fun _ => ⟨vp_in_nI hi (by omega), ?_⟩⟩
      rintro M1 rfl x6 rfl
      rw [nI_1, ni]
      refine ih _ ⟨hN.1.tr (FJ.wr (by omega) (by omega)), fun j hj => ?_⟩
      rw [wr_q]
      by_cases e : j = i
      · rw [if_pos e]
      · rw [if_neg e]; exact hN.2 j (by omega)
  · have hst : s = t := (nI_eq (by omega) (by omega)).mp z
    subst hst
    have := h M (FJ.rf _ _ _)
    unfold upN at this
    rw [mt_same hB2 hH hs n, Nat.sub_zero, sc_al hn] at this
    exact this
theorem sp_gcdC {Post : Int32 → Mem → Prop} {M : Mem} {A B : Nat} (hA : A < 2 ^ 18) (hB0 : 0 < B) (hB : B < 2 ^ 31) (h : Post (nI (Nat.gcd A B)) M) : wp_X11_commonDivisor Post M (nI A) (nI B) := by
  intro P7 h7
  have fin : ∀ L, 0 < L → L < 2 ^ 31 → Post (nI L) M → wp_X11_commonDivisor_b34 Post (nI A) (nI B) P7 M (nI L) := by
    intro L h1 h2 h3
    exact ⟨fun z => absurd z (nI_nle h1 h2), fun _ => h3⟩
  have key : ∀ k i, i + 2 * k ≤ 63 → ∀ L s, s < 2 ^ k → 0 < L → L < 2 ^ 31 → s < 2 ^ 31 → Nat.gcd s L = Nat.gcd A B → P7 M (nI L) (nI s) (nI i) := by
    intro k
    induction k with
    | zero =>
      intro i hi L s hs hL hL2 hs2 e
      have s0 : s = 0 := by have : (2 : Nat) ^ 0 = 1 := rfl
                            omega
      subst s0
      rw [Nat.gcd_zero_left] at e
      have f := fin L hL hL2 (by rw [e]; exact h)
      exact h7 _ _ _ _ ⟨fun z => absurd z (le_n (n := 64) (by omega) (by omega)), fun _ => ⟨fun _ => f, fun z => absurd (Int32.le_refl _) z⟩⟩
    | succ k ih =>
      intro i hi L s hs hL hL2 hs2 e
      have h64 : ∀ j, j ≤ 63 → ¬ (64 : Int32) ≤ nI j := fun j hj => le_n (n := 64) (by omega) (by omega)
      refine h7 _ _ _ _ ⟨fun z => absurd z (h64 i (by omega)), fun _ => ⟨fun z => ?_, fun z => ?_⟩⟩
      · have s0 : s = 0 := by
          have := (nI_leI (a := s) (b := 0) hs2 (by omega)).mp z
          omega
        subst s0
        rw [Nat.gcd_zero_left] at e
        exact fin L hL hL2 (by rw [e]; exact h)
      · have s1 : 0 < s := Nat.pos_of_ne_zero (fun y => z (by subst y; exact Int32.le_refl _))
        refine ⟨nI_ne0 s1 hs2, fun x5 hx5 x4 hx4 => ?_⟩
        rw [hx5, hx4, nI_1, pk_rem hL2 s1 hs2]
        have r1 : L % s < s := Nat.mod_lt _ s1
        have e1 : Nat.gcd (L % s) s = Nat.gcd A B := by rw [← Nat.gcd_rec]; exact e
        refine h7 _ _ _ _ ⟨fun z => absurd z (h64 (i + 1) (by omega)), fun _ => ⟨fun y => ?_, fun y => ?_⟩⟩
        · have s0 : L % s = 0 := by
            have := (nI_leI (a := L % s) (b := 0) (by omega) (by omega)).mp y
            omega
          rw [s0, Nat.gcd_zero_left] at e1
          exact fin s s1 hs2 (by rw [e1]; exact h)
        · have s2 : 0 < L % s := Nat.pos_of_ne_zero (fun q => y (by rw [q]; exact Int32.le_refl _))
          refine ⟨nI_ne0 s2 (by omega), fun x5 hx5 x4 hx4 => ?_⟩
          rw [hx5, hx4, nI_1, pk_rem hs2 s2 (by omega)]
          have r2 : s % (L % s) < L % s := Nat.mod_lt _ s2
          have r3 : s % (L % s) + L % s ≤ s := by
            have m := Nat.mod_add_div s (L % s)
            have d : 1 ≤ s / (L % s) := (Nat.one_le_div_iff s2).mpr (by omega)
            have := Nat.mul_le_mul_left (L % s) d
            omega
          have e2 : Nat.gcd (s % (L % s)) (L % s) = Nat.gcd A B := by rw [← Nat.gcd_rec]; exact e1
          have pw : (2 : Nat) ^ (k + 1) = 2 ^ k * 2 := Nat.pow_succ 2 k
          exact ih (i + 1 + 1) (by omega) (L % s) (s % (L % s)) (by omega) s2 (by omega) (by omega) e2
  exact key 18 0 (by omega) B A hA hB0 hB (by omega) rfl
theorem sp_goAll {Post : Mem → Prop} {M : Mem} {a b c d p r : Nat} {x y : Nat → Nat} (hC : MO M a b c d) (hp : p < 4) (hr : r < a) (e50 : rd M 50 r = nI (x r)) (e51 : ∀ j, j < 6 → rd M 51 j = nI (y j)) (h : ∀ M', FQ 51 M M' → (∀ j, j < 6 → rd M' 51 j = nI (spR (stM M) p b x r y j)) → Post M') : wp_X12_goAll Post M (nI p) (nI r) := by
  intro P5 P69 h5 h69
  have hB := hC.2.2.2.2.1
  have hB2 := hB
  unfold BD at hB
  have hH := hC.2.2.2.2.2
  have n1 := cl4 (p := r) (by omega)
  have v6 : vp_in (nI r) 6 := vp_in_nI (by omega) (by omega)
  have wl : wyN (stM M) p b r ≤ 6 := Nat.le_trans (cn_le _ b) (by omega)
  have z0 : ∀ v : Int32, v + 0 = v := fun v => by simp
  refine for_acc (P := P5) (n := b) (fun i => nI (cnN (fun k => goB (stM M) p k (nI r)) i)) (h5 _ _ _ ⟨fun _ => ?_, fun z => absurd (by rw [hC.2.1]; exact Int32.le_refl _) z⟩) (fun i hi ih => h5 _ _ _ ⟨fun z => absurd z (by rw [hC.2.1]; exact le_n (by omega) hi), fun _ => ?_⟩)
  · show vp_in (nI r) 6 ∧ (¬ nI (wyN (stM M) p b r) = 0 → vp_in (nI r) 6 ∧ ∀ M1 : Mem, _ → P69 M1 (nI (wyN (stM M) p b r)) 0) ∧ (nI (wyN (stM M) p b r) = 0 → vp_in (nI r) 6 ∧ vp_in (nI r) 6 ∧ ∀ M2 : Mem, _ → P69 M2 (nI (wyN (stM M) p b r)) 0)
    unfold spR at h
    rw [n1]
    refine ⟨v6, ?_⟩
    by_cases w0 : wyN (stM M) p b r = 0
    · refine ⟨fun z => absurd (by rw [w0]; rfl) z, fun _ => ⟨v6, v6, ?_⟩⟩
      rintro M1 rfl
      rw [if_pos w0] at h
      have nog := cn_0 b w0
      refine for_up (S := Mem) (P := fun s i => P69 s (nI (wyN (stM M) p b r)) i) (n := b) (fun i s => FQ 51 M s ∧ ∀ j, j < 6 → rd s 51 j = nI (adN y r (60 * x r) j)) (fun s hs => ?_) (fun i s hi hs ih => ?_) 0 (Nat.zero_le _) _ ⟨FQ.wr, fun j hj => ?_⟩
      · have hC' := hs.1.mo (by omega) hC
        exact h69 _ _ _ ⟨fun _ => h s hs.1 hs.2, fun z => absurd (by rw [hC'.2.1]; exact Int32.le_refl _) z⟩
      · obtain ⟨f, e⟩ := hs
        have hC' := f.mo (by omega) hC
        refine h69 _ _ _ ⟨fun z => absurd z (by rw [hC'.2.1]; exact le_n (by omega) hi), fun _ => ?_⟩
        rw [eqm_thr hC' hp hi, f.stM (by omega)]
        have en : nxt (stM M) p i (nI r) = -1 := by unfold nxt; rw [if_neg (nog i hi)]
        rw [en]
        refine ⟨fun _ x4 hx4 => ?_, fun z => absurd rfl z⟩
        rw [hx4, nI_1]
        exact ih s ⟨f, e⟩
      · rw [wr_q]
        unfold adN
        by_cases e : j = r
        · have m : (60 : Int32) * nI (x r) = nI (60 * x r) := pk_mul 60 (x r)
          rw [if_pos e, if_pos e, e, e51 r (by omega), e50, m, nI_add]
        · rw [if_neg e, if_neg e, e51 j hj]
    · refine ⟨fun _ => ⟨v6, ?_⟩, fun z => absurd z (nI_ne0 (by omega) (by omega))⟩
      rintro M1 rfl
      rw [if_neg w0] at h
      generalize wyN (stM M) p b r = w at w0 wl h ⊢
      refine for_up (S := Mem) (P := fun s i => P69 s (nI w) i) (n := b) (fun i s => FQ 51 M s ∧ ∀ j, j < 6 → rd s 51 j = nI (spD (stM M) p r (60 / w * x r) y i j)) (fun s hs => ?_) (fun i s hi hs ih => ?_) 0 (Nat.zero_le _) _ ⟨FQ.wr, fun j hj => ?_⟩
      · have hC' := hs.1.mo (by omega) hC
        exact h69 _ _ _ ⟨fun _ => h s hs.1 hs.2, fun z => absurd (by rw [hC'.2.1]; exact Int32.le_refl _) z⟩
      · obtain ⟨f, e⟩ := hs
        have hC' := f.mo (by omega) hC
        refine h69 _ _ _ ⟨fun z => absurd z (by rw [hC'.2.1]; exact le_n (by omega) hi), fun _ => ?_⟩
        rw [eqm_thr hC' hp hi, f.stM (by omega)]
        obtain ⟨t, ht, et⟩ := by_lt (r := nI r) hH hi
        have n2 := cl4 (p := t) (by omega)
        have v2 : vp_in (nI t) 6 := vp_in_nI (by omega) (by omega)
        have ih := fun s' (z : FQ 51 M s' ∧ ∀ j, j < 6 → rd s' 51 j = nI (spD (stM M) p r (60 / w * x r) y (i + 1) j)) => ih s' z
        rw [spD] at ih
        by_cases g : goB (stM M) p i (nI r) = true
        · have en : nxt (stM M) p i (nI r) = nI t := by unfold nxt; rw [if_pos g, et]
          rw [if_pos g, et, n2] at ih
          have dd : (60 : Int32) / nI w = nI (60 / w) := pk_div (a := 60) (by omega) (by omega) (by omega)
          rw [en, n2, n1, f.1 50 (by omega), e50, dd, pk_mul]
          refine ⟨fun z => absurd z (nI_nm1 (by omega)), fun _ => ⟨v2, nI_ne0 (by omega) (by omega), v6, v2, ?_⟩⟩
          rintro M12 rfl x4 rfl
          rw [nI_1]
          refine ih _ ⟨f.tr FQ.wr, fun j hj => ?_⟩
          rw [wr_q]
          unfold adN
          by_cases ej : j = t
          · rw [if_pos ej, if_pos ej, ej, e t (by omega), nI_add]
          · rw [if_neg ej, if_neg ej, e j hj]
        · have en : nxt (stM M) p i (nI r) = -1 := by unfold nxt; rw [if_neg g]
          rw [if_neg g] at ih
          rw [en]
          refine ⟨fun _ x4 hx4 => ?_, fun z => absurd rfl z⟩
          rw [hx4, nI_1]
          exact ih s ⟨f, e⟩
      · show _ = nI (y j)
        rw [wr_q, z0]
        by_cases e : j = r
        · rw [if_pos e, e]; exact e51 r (by omega)
        · rw [if_neg e]; exact e51 j hj
  · rw [cnN] at ih
    rw [eqm_thr hC hp hi, nxt_go hB2 hH hi]
    by_cases g : goB (stM M) p i (nI r) = true
    · rw [if_pos g] at ih
      refine ⟨fun z => absurd g z, fun _ x3 hx3 x4 hx4 => ?_⟩
      rw [hx3, hx4, nI_1, nI_1]; exact ih
    · rw [if_neg g] at ih
      refine ⟨fun _ x3 hx3 x4 hx4 => ?_, fun z => absurd g z⟩
      rw [hx3, hx4, nI_1, z0]; exact ih
theorem sp_metOf {Post : Int32 → Mem → Prop} {M : Mem} {a b c d p q s t n : Nat} {v4 : Int32} (hC : MO M a b c d) (hp : p < 4) (hq : q < 4) (hs : s < a) (ht : t < a) (er : rd M 36 p = nI s) (eq : rd M 36 q = nI t) (hn1 : 1 ≤ n) (hn : n ≤ 3) (h : ∀ M', FJ 50 51 M M' → Post (if v4 = 0 then nI (upN (stM M) p a b s t n / Nat.gcd (upN (stM M) p a b s t n) (alN n)) else nI (alN n / Nat.gcd (upN (stM M) p a b s t n) (alN n))) M') : wp_X12_metOf Post M (nI p) (nI q) (nI n) v4 := by
  intro P6 P56 P72 P96 P154 P187 h6 h56 h72 h96 h154 h187
  have hB := hC.2.2.2.2.1
  have hB2 := hB
  unfold BD at hB
  have hH := hC.2.2.2.2.2
  have n1 := cl4 (p := p) (by omega)
  have nq := cl4 (p := q) (by omega)
  have ns := cl4 (p := s) (by omega)
  have nt := cl4 (p := t) (by omega)
  obtain ⟨al1, al2⟩ := al_pos hn
  have upl : upN (stM M) p a b s t n ≤ alN n := Nat.sub_le _ _
  have eucl : ∀ N, FJ 50 51 M N → ∀ s2 L, s2 < 2 ^ 31 → 0 < L → L < 2 ^ 31 → Nat.gcd s2 L = Nat.gcd (upN (stM M) p a b s t n) (alN n) → P187 N (nI (alN n)) (nI (upN (stM M) p a b s t n)) (nI L) (nI s2) := by
    intro N f s2
    have hN := h N f
    generalize upN (stM M) p a b s t n = U at upl hN ⊢
    generalize alN n = A at al1 al2 upl hN ⊢
    induction s2 using Nat.strongRecOn with
    | ind s2 ih =>
      intro L hs2 hL hL2 e
      refine h187 _ _ _ _ _ ⟨fun z => ?_, fun z => ?_⟩
      · have s0 : s2 = 0 := by
          have := (nI_leI (a := s2) (b := 0) hs2 (by omega)).mp z
          omega
        subst s0
        rw [Nat.gcd_zero_left] at e
        rw [pk_div (by omega) hL hL2, pk_div (by omega) hL hL2, e]
        rw [← e] at hN ⊢
        refine ⟨fun y => ⟨nI_ne0 hL hL2, ?_⟩, fun y => ⟨nI_ne0 hL hL2, ?_⟩⟩
        · rw [if_neg y] at hN; exact hN
        · rw [if_pos y] at hN; exact hN
      · have s1 : 0 < s2 := Nat.pos_of_ne_zero (fun y => z (by subst y; exact Int32.le_refl _))
        refine ⟨nI_ne0 s1 hs2, fun x9 hx9 => ?_⟩
        rw [hx9, pk_rem hL2 s1 hs2]
        have r1 : L % s2 < s2 := Nat.mod_lt _ s1
        exact ih (L % s2) r1 s2 (by omega) s1 hs2 (by rw [← Nat.gcd_rec]; exact e)
  have subs : ∀ N, FJ 50 51 M N → (∀ j, j < 6 → rd N 50 j = nI (mtN (stM M) p a b s t n j)) → P154 N (nI (alN n)) (nI (alN n)) 0 := by
    intro N f g
    have ml := mt_le (p := p) hB2 hH hs ht n hn
    refine for_up (S := Int32) (P := fun v i => P154 N (nI (alN n)) v i) (n := 6) (fun i v => v = nI (alN n - smN (mtN (stM M) p a b s t n) i)) (fun v hv => ?_) (fun i v hi hv ih => ?_) 0 (Nat.zero_le _) (nI (alN n)) rfl
    · refine h154 _ _ _ _ ⟨fun _ => ?_, fun z => absurd (Int32.le_refl _) z⟩
      rw [hv]
      exact eucl N f _ _ (by omega) (by omega) (by omega) rfl
    · have ni := cl4 (p := i) (by omega)
      refine h154 _ _ _ _ ⟨fun z => absurd z (le_n (n := 6) (by omega) hi), fun _ => ⟨vp_in_nI hi (by omega), fun x6 hx6 x7 hx7 => ?_⟩⟩
      rw [hx7, nI_1]
      refine ih x6 ?_
      have mm := sm_mono (f := mtN (stM M) p a b s t n) (i := i + 1) (n := 6) (by omega)
      rw [smN] at mm
      rw [hx6, hv, ni, g i hi, pk_sub (by omega), smN]
      congr 1
      omega
  have hours : ∀ N, FJ 50 51 M N → (∀ j, j < 6 → rd N 50 j = nI (mtN (stM M) p a b s t 0 j)) → P56 N 1 0 := by
    intro N0 f0 g0
    refine for_up (S := Mem × Int32) (P := fun w i => P56 w.1 w.2 i) (n := n) (fun i w => FJ 50 51 M w.1 ∧ (∀ j, j < 6 → rd w.1 50 j = nI (mtN (stM M) p a b s t i j)) ∧ w.2 = nI (alN i)) (fun w hw => ?_) (fun i w hi hw ih => ?_) 0 (Nat.zero_le _) (N0, 1) ⟨f0, g0, rfl⟩
    · obtain ⟨f, g, e⟩ := hw
      refine h56 _ _ _ ⟨fun _ => ?_, fun z => absurd (Int32.le_refl _) z⟩
      rw [e]
      exact subs w.1 f g
    · obtain ⟨N, v5⟩ := w
      obtain ⟨f, g, e⟩ := hw
      have f : FJ 50 51 M N := f
      have g : ∀ j, j < 6 → rd N 50 j = nI (mtN (stM M) p a b s t i j) := g
      have e : v5 = nI (alN i) := e
      refine h56 _ _ _ ⟨fun z => absurd z (le_n (by omega) hi), fun _ x5 hx5 => ?_⟩
      have e5 : x5 = nI (alN (i + 1)) := by
        have m : nI (alN i) * (60 : Int32) = nI (alN i * 60) := pk_mul (alN i) 60
        rw [hx5, e, m, al_s (by omega)]
      rw [e5]
      have rooms : ∀ N2, FJ 50 51 M N2 → (∀ j, j < 6 → rd N2 50 j = nI (mtN (stM M) p a b s t i j)) → (∀ j, j < 6 → rd N2 51 j = 0) → P96 N2 (nI (alN (i + 1))) (nI i) 0 := by
        intro N2 f2 g2 k2
        refine for_up (S := Mem) (P := fun w r => P96 w (nI (alN (i + 1))) (nI i) r) (n := a) (fun r w => FJ 50 51 M w ∧ (∀ j, j < 6 → rd w 50 j = nI (mtN (stM M) p a b s t i j)) ∧ ∀ j, j < 6 → rd w 51 j = nI (spU (stM M) p b (mtN (stM M) p a b s t i) r j)) (fun w hw => ?_) (fun r w hr hw ih2 => ?_) 0 (Nat.zero_le _) N2 ⟨f2, g2, k2⟩
        · obtain ⟨fw, gw, kw⟩ := hw
          have hC' := fw.mo (by omega) hC
          refine h96 _ _ _ _ ⟨fun _ => ?_, fun z => absurd (by rw [hC'.1]; exact Int32.le_refl _) z⟩
          refine sp_copy (by omega) (by omega) (fun N3 u3 w3 x3 => ?_)
          rw [nq, u3 36 (by omega), fw.1 36 (by omega), eq, nt]
          refine ⟨vp_in_nI hq (by omega), vp_in_nI (by omega) (by omega), ?_⟩
          rintro M12 rfl x6 rfl
          rw [nI_1]
          have f3 : FJ 50 51 w N3 := ⟨fun z hz j => u3 z (by omega) j, x3⟩
          refine ih (wr N3 50 t 0, nI (alN (i + 1))) ⟨(fw.tr f3).tr (FJ.wr (by omega) (by omega)), fun j hj => ?_, rfl⟩
          show rd (wr N3 50 t 0) 50 j = nI (if j = t then 0 else spU (stM M) p b (mtN (stM M) p a b s t i) a j)
          rw [wr_q]
          by_cases ej : j = t
          · rw [if_pos ej, if_pos ej]; rfl
          · rw [if_neg ej, if_neg ej, w3 j, if_pos hj]; exact kw j hj
        · obtain ⟨fw, gw, kw⟩ := hw
          have hC' := fw.mo (by omega) hC
          refine h96 _ _ _ _ ⟨fun z => absurd z (by rw [hC'.1]; exact le_n (by omega) hr), fun _ => ?_⟩
          refine sp_goAll (x := mtN (stM M) p a b s t i) (y := spU (stM M) p b (mtN (stM M) p a b s t i) r) hC' hp hr (gw r (by omega)) kw (fun M15 f15 g15 => ?_)
          intro x7 hx7
          rw [hx7, nI_1]
          rw [fw.stM (by omega)] at g15
          exact ih2 M15 ⟨fw.tr (f15.fj (by omega) (by omega)), fun j hj => by rw [f15.1 50 (by omega)]; exact gw j hj, g15⟩
      refine for_up (S := Mem) (P := fun w j => P72 w (nI (alN (i + 1))) (nI i) j) (n := 6) (fun k w => FJ 50 51 M w ∧ (∀ j, j < 6 → rd w 50 j = nI (mtN (stM M) p a b s t i j)) ∧ ∀ j, j < k → rd w 51 j = 0) (fun w hw => ?_) (fun k w hk hw ih2 => ?_) 0 (Nat.zero_le _) N ⟨f, g, fun j hj => absurd hj (Nat.not_lt_zero _)⟩
      · exact h72 _ _ _ _ ⟨fun _ => rooms w hw.1 hw.2.1 hw.2.2, fun z => absurd (Int32.le_refl _) z⟩
      · have nk := cl4 (p := k) (by omega)
        refine h72 _ _ _ _ ⟨fun z => absurd z (le_n (n := 6) (by omega) hk), fun _ => ⟨vp_in_nI hk (by omega), ?_⟩⟩
        rintro M8 rfl x7 rfl
        rw [nI_1, nk]
        refine ih2 _ ⟨hw.1.tr (FJ.wr (by omega) (by omega)), fun j hj => by rw [wr_n (by omega)]; exact hw.2.1 j hj, fun j hj => ?_⟩
        rw [wr_q]
        by_cases ej : j = k
        · rw [if_pos ej]
        · rw [if_neg ej]; exact hw.2.2 j (by omega)
  refine for_up (S := Mem) (P := fun w i => P6 w 1 i) (n := 6) (fun i w => FJ 50 51 M w ∧ ∀ j, j < i → rd w 50 j = nI (mtN (stM M) p a b s t 0 j)) (fun w hw => ?_) (fun i w hi hw ih => ?_) 0 (Nat.zero_le _) M ⟨FJ.rf _ _ _, fun j hj => absurd hj (Nat.not_lt_zero _)⟩
  · exact h6 _ _ _ ⟨fun _ => hours w hw.1 hw.2, fun z => absurd (Int32.le_refl _) z⟩
  · have ni := cl4 (p := i) (by omega)
    have v6 : vp_in (nI i) 6 := vp_in_nI hi (by omega)
    refine h6 _ _ _ ⟨fun z => absurd z (le_n (n := 6) (by omega) hi), fun _ => ⟨vp_in_nI hp (by omega), ?_⟩⟩
    rw [n1, nq, hw.1.1 36 (by omega), hw.1.1 36 (by omega), er, eq, nI_eq (by omega) (by omega), nI_eq (by omega) (by omega), ni]
    have nx : ∀ v : Nat, v = mtN (stM M) p a b s t 0 i → ∀ M1 : Mem, M1 = wr w 50 i (nI v) → ∀ x6 : Int32, x6 = nI i + 1 → P6 M1 1 x6 := by
      rintro v hv M1 rfl x6 rfl
      rw [nI_1]
      refine ih _ ⟨hw.1.tr (FJ.wr (by omega) (by omega)), fun j hj => ?_⟩
      rw [wr_q]
      by_cases ej : j = i
      · rw [if_pos ej, ej, hv]
      · rw [if_neg ej]; exact hw.2 j (by omega)
    refine ⟨fun z => ⟨v6, nx 0 (if_neg (fun y => z y.1)).symm⟩, fun z => ⟨vp_in_nI hq (by omega), fun y => ⟨v6, nx 0 (if_neg (fun w => w.2 y)).symm⟩, fun y => ⟨v6, nx 1 (if_pos ⟨z, y⟩).symm⟩⟩⟩
theorem ob_met {n : Nat} {M : Mem} (hI : Inv n M) {a b c d : Nat} (hC : CO M 59 a b c d) (hM : MO M a b c d) (hT : TOK (tvM M) a c) {p q m : Nat} (hp : p < c) (hq : q < c) (hpq : p ≠ q) (hm1 : 1 ≤ m) (hm : m ≤ 3) {v : Int32} (hv : zb v) : OB (fun P M => wp_X11_met P M (nI p) (nI q) (nI m) v) (fun P M => wp_X12_metOf P M (nI p) (nI q) (nI m) v) M := by
  have hB := hC.2.2.2.2.1
  have hB2 := hB
  unfold BD at hB
  obtain ⟨s, hs, es⟩ := hT.at hp
  obtain ⟨t, ht, et⟩ := hT.at hq
  have nq := cl4 (p := q) (by omega)
  have vp : vp_in (nI p) c := vp_in_nI hp (by omega)
  have vq : vp_in (nI q) c := vp_in_nI hq (by omega)
  have hH := hM.2.2.2.2.2
  obtain ⟨al1, al2⟩ := al_pos hm
  have upl : upN (stM M) p a b s t m ≤ alN m := Nat.sub_le _ _
  have sp := sc_pos hm
  have sa := sc_al hm
  refine ⟨if v = 0 then nI (upN (stM M) p a b s t m / Nat.gcd (upN (stM M) p a b s t m) (alN m)) else nI (alN m / Nat.gcd (upN (stM M) p a b s t m) (alN m)), fun M1 P f h => ?_, fun M1 P f h => ?_⟩
  · have hC1 := (f.both hI hC hM).1
    have hst := f.cs hI
    have htt := f.ct hI
    have er1 : rd M1 (59 + 2) p = nI s := by rw [← es, ← htt]; exact (cut_lt (show p < 4 by omega)).symm
    have er2 : rd M1 61 q = nI t := by rw [← et, ← htt]; exact (cut_lt (show q < 4 by omega)).symm
    show wp_X11_met P M1 (nI p) (nI q) (nI m) v
    unfold wp_X11_met
    rw [eq_isNobody hC1.2.2.1 (by omega)]
    refine ⟨fun _ => ⟨fun z => absurd rfl z, fun _ => ?_⟩, fun z => absurd vp z⟩
    rw [eq_isNobody hC1.2.2.1 (by omega)]
    refine ⟨fun _ => ⟨fun z => absurd rfl z, fun _ => ⟨fun _ => ?_, fun z => absurd ((nI_eq (by omega) (by omega)).mp z) hpq⟩⟩, fun z => absurd vq z⟩
    have v0 : ¬ v < 0 := by rcases hv with rfl | rfl <;> decide
    have v1 : v ≤ 1 := by rcases hv with rfl | rfl <;> decide
    refine ⟨fun z => absurd z (nI_nlt (a := m) (b := 1) hm1 (by omega)), fun _ => ⟨fun z => absurd z (nI_nlt (a := 3) (b := m) hm (by omega)), fun _ => ⟨fun z => absurd z v0, fun _ => ⟨fun _ => ⟨vp_in_nI (by omega) (by omega), ?_⟩, fun z => absurd v1 z⟩⟩⟩⟩
    rw [nq, er2]
    refine sp_metParts hC1 (by omega) (by omega) hs ht er1 hm1 hm (fun M6 f6 => ?_)
    rw [hst]
    have h := h M6 (f6.fr (by omega)) f6.2
    have e216 : (216000 : Int32) = nI (scN m * alN m) := by rw [sa]; rfl
    rw [e216]
    have small : scN m * upN (stM M) p a b s t m ≤ 216000 := by rw [← sa]; exact Nat.mul_le_mul_left _ upl
    refine sp_gcdC (Nat.lt_of_le_of_lt small (by decide)) (by rw [sa]; decide) (by rw [sa]; decide) ?_
    rw [Nat.gcd_mul_left]
    have gp : 0 < Nat.gcd (upN (stM M) p a b s t m) (alN m) := Nat.gcd_pos_of_pos_right _ al1
    have gl : Nat.gcd (upN (stM M) p a b s t m) (alN m) ≤ alN m := Nat.le_of_dvd al1 (Nat.gcd_dvd_right _ _)
    have gs : 0 < scN m * Nat.gcd (upN (stM M) p a b s t m) (alN m) := Nat.mul_pos sp gp
    have gs2 : scN m * Nat.gcd (upN (stM M) p a b s t m) (alN m) < 2 ^ 31 := Nat.lt_of_le_of_lt (Nat.le_trans (Nat.mul_le_mul_left _ gl) (Nat.le_of_eq sa)) (by decide)
    rw [pk_div (Nat.lt_of_le_of_lt small (by decide)) gs gs2, pk_div (by rw [sa]; decide) gs gs2, Nat.mul_div_mul_left _ _ sp, Nat.mul_div_mul_left _ _ sp]
    refine ⟨fun z => ⟨nI_ne0 gs gs2, ?_⟩, fun z => ⟨nI_ne0 gs gs2, ?_⟩⟩
    · rw [if_neg z] at h; exact h
    · rw [if_pos z] at h; exact h
  · have hM1 := (f.both hI hC hM).2
    have hst := f.st
    have er1 : rd M1 36 p = nI s := by rw [← es, ← f.tv]; exact (cut_lt (show p < 4 by omega)).symm
    have er2 : rd M1 36 q = nI t := by rw [← et, ← f.tv]; exact (cut_lt (show q < 4 by omega)).symm
    refine sp_metOf hM1 (by omega) (by omega) hs ht er1 er2 hm1 hm (fun M' f' => ?_)
    rw [hst]
    exact h M' (f'.fr (by omega)) f'.2
theorem ob_met' {n : Nat} {M : Mem} (hI : Inv n M) (v1 v2 v3 v4 : Int32) : OB (fun P M => wp_X11_met P M v1 v2 v3 v4) (fun P M => wp_X12_met P M v1 v2 v3 v4) M := by
  obtain ⟨a, b, c, d, hC, hM, hT⟩ := hI.both
  have hB := hC.2.2.2.2.1
  unfold BD at hB
  by_cases hp : vp_in v1 c
  · by_cases hq : vp_in v2 c
    · by_cases hpq : v1 = v2
      · refine OB.one (-101) (fun M1 P f h => ?_) (fun M1 P f h => ?_)
        · have hC1 := (f.both hI hC hM).1
          unfold wp_X11_met
          rw [eq_isNobody hC1.2.2.1 (by omega)]
          refine ⟨fun _ => ⟨fun z => absurd rfl z, fun _ => ?_⟩, fun z => absurd hp z⟩
          rw [eq_isNobody hC1.2.2.1 (by omega)]
          exact ⟨fun _ => ⟨fun z => absurd rfl z, fun _ => ⟨fun z => absurd hpq z, fun _ => h⟩⟩, fun z => absurd hq z⟩
        · have hM1 := (f.both hI hC hM).2
          unfold wp_X12_met
          rw [eq_isPerson hM1.2.2.1 (by omega)]
          refine ⟨fun _ => ⟨fun z => absurd z (by decide), fun _ => ?_⟩, fun z => absurd hp z⟩
          rw [eq_isPerson hM1.2.2.1 (by omega)]
          exact ⟨fun _ => ⟨fun z => absurd z (by decide), fun _ => ⟨fun z => absurd hpq z, fun _ => h⟩⟩, fun z => absurd hq z⟩
      · have i1 := in_iff (v := v3) (b := 1) (c := 3) (lo := 1) (hi := 3) (by decide) (by decide)
        have i2 := in_iff (v := v4) (b := 0) (c := 1) (lo := 0) (hi := 1) (by decide) (by decide)
        by_cases good : (1 ≤ v3.toInt ∧ v3.toInt ≤ 3) ∧ 0 ≤ v4.toInt ∧ v4.toInt ≤ 1
        · obtain ⟨m, hm, rfl⟩ := vp_ex (v := v3) (n := 4) (vp_iff.mpr (by omega)) (by omega)
          obtain ⟨w, hw, rfl⟩ := vp_ex (v := v4) (n := 2) (vp_iff.mpr (by omega)) (by omega)
          obtain ⟨p, hp1, rfl⟩ := vp_ex hp (by omega)
          obtain ⟨q, hq1, rfl⟩ := vp_ex hq (by omega)
          have gm := good.1.1
          rw [nI_toInt (by omega)] at gm
          have zw : zb (nI w) := by rcases (by omega : w = 0 ∨ w = 1) with rfl | rfl; exact Or.inl rfl; exact Or.inr rfl
          refine (ob_met hI hC hM hT hp1 hq1 (fun z => hpq (by rw [z])) (by omega) (by omega) zw).mdl (fun M1 P f h => ?_)
          have hM1 := (f.both hI hC hM).2
          unfold wp_X12_met
          rw [eq_isPerson hM1.2.2.1 (by omega)]
          refine ⟨fun _ => ⟨fun z => absurd z (by decide), fun _ => ?_⟩, fun z => absurd hp z⟩
          rw [eq_isPerson hM1.2.2.1 (by omega)]
          refine ⟨fun _ => ⟨fun z => absurd z (by decide), fun _ => ⟨fun _ => ?_, fun z => absurd z hpq⟩⟩, fun z => absurd hq z⟩
          rw [eq_in, if_pos (i1.mpr good.1)]
          refine ⟨fun z => absurd z (by decide), fun _ => ?_⟩
          rw [eq_in, if_pos (i2.mpr good.2)]
          exact ⟨fun z => absurd z (by decide), fun _ => h⟩
        · have l1 : v3 < 1 ↔ v3.toInt < 1 := by rw [Int32.lt_iff_toInt_lt]; rfl
          have l3 : 3 < v3 ↔ 3 < v3.toInt := by rw [Int32.lt_iff_toInt_lt]; rfl
          have k0 : v4 < 0 ↔ v4.toInt < 0 := lt0_iff
          have k1 : v4 ≤ 1 ↔ v4.toInt ≤ 1 := le9 (k := 1) (by omega)
          refine OB.one (-102) (fun M1 P f h => ?_) (fun M1 P f h => ?_)
          · have hC1 := (f.both hI hC hM).1
            unfold wp_X11_met
            rw [eq_isNobody hC1.2.2.1 (by omega)]
            refine ⟨fun _ => ⟨fun z => absurd rfl z, fun _ => ?_⟩, fun z => absurd hp z⟩
            rw [eq_isNobody hC1.2.2.1 (by omega)]
            refine ⟨fun _ => ⟨fun z => absurd rfl z, fun _ => ⟨fun _ => ⟨fun _ => h, fun y1 => ⟨fun _ => h, fun y2 => ⟨fun _ => h, fun y3 => ⟨fun y4 => ?_, fun _ => h⟩⟩⟩⟩, fun z => absurd z hpq⟩⟩, fun z => absurd hq z⟩
            rw [l1] at y1
            rw [l3] at y2
            rw [k0] at y3
            rw [k1] at y4
            exact absurd ⟨⟨by omega, by omega⟩, by omega, by omega⟩ good
          · have hM1 := (f.both hI hC hM).2
            unfold wp_X12_met
            rw [eq_isPerson hM1.2.2.1 (by omega)]
            refine ⟨fun _ => ⟨fun z => absurd z (by decide), fun _ => ?_⟩, fun z => absurd hp z⟩
            rw [eq_isPerson hM1.2.2.1 (by omega)]
            refine ⟨fun _ => ⟨fun z => absurd z (by decide), fun _ => ⟨fun _ => ?_, fun z => absurd z hpq⟩⟩, fun z => absurd hq z⟩
            rw [eq_in]
            by_cases g1 : (1 : Int64) ≤ v3.toInt64 ∧ v3.toInt64 ≤ 3
            · rw [if_pos g1]
              refine ⟨fun z => absurd z (by decide), fun _ => ?_⟩
              rw [eq_in]
              by_cases g2 : (0 : Int64) ≤ v4.toInt64 ∧ v4.toInt64 ≤ 1
              · exact absurd ⟨i1.mp g1, i2.mp g2⟩ good
              · rw [if_neg g2]
                exact ⟨fun _ => h, fun z => absurd rfl z⟩
            · rw [if_neg g1]
              exact ⟨fun _ => h, fun z => absurd rfl z⟩
    · refine OB.one (-101) (fun M1 P f h => ?_) (fun M1 P f h => ?_)
      · have hC1 := (f.both hI hC hM).1
        unfold wp_X11_met
        rw [eq_isNobody hC1.2.2.1 (by omega)]
        refine ⟨fun _ => ⟨fun z => absurd rfl z, fun _ => ?_⟩, fun z => absurd hp z⟩
        rw [eq_isNobody hC1.2.2.1 (by omega)]
        exact ⟨fun z => absurd z hq, fun _ => ⟨fun _ => h, fun z => absurd z (by decide)⟩⟩
      · have hM1 := (f.both hI hC hM).2
        unfold wp_X12_met
        rw [eq_isPerson hM1.2.2.1 (by omega)]
        refine ⟨fun _ => ⟨fun z => absurd z (by decide), fun _ => ?_⟩, fun z => absurd hp z⟩
        rw [eq_isPerson hM1.2.2.1 (by omega)]
        exact ⟨fun z => absurd z hq, fun _ => ⟨fun _ => h, fun z => absurd rfl z⟩⟩
  · refine OB.one (-101) (fun M1 P f h => ?_) (fun M1 P f h => ?_)
    · have hC1 := (f.both hI hC hM).1
      unfold wp_X11_met
      rw [eq_isNobody hC1.2.2.1 (by omega)]
      exact ⟨fun z => absurd z hp, fun _ => ⟨fun _ => h, fun z => absurd z (by decide)⟩⟩
    · have hM1 := (f.both hI hC hM).2
      unfold wp_X12_met
      rw [eq_isPerson hM1.2.2.1 (by omega)]
      exact ⟨fun z => absurd z hp, fun _ => ⟨fun _ => h, fun z => absurd rfl z⟩⟩
