/-! ===== rings of debts: the model ===== -/
def isB (H : Nat → Nat → Int32) (T : TV) (d t k : Nat) : Bool := decide (k < d ∧ T.2.2 k = 0 ∧ H 7 k = nI t)
def tpN (H : Nat → Nat → Int32) (T : TV) (d t k : Nat) : Nat := if isB H T d t k = true then (H 8 k).toNatClampNeg else 0
theorem isB_lt {H : Nat → Nat → Int32} {T : TV} {d t k : Nat} (h : isB H T d t k = true) : k < d := (decide_eq_true_iff.mp h).1
theorem tp_of {H : Nat → Nat → Int32} {T : TV} {a b c d t k : Nat} (hH : HOK H a b c d) (h : isB H T d t k = true) : H 8 k = nI (tpN H T d t k) ∧ 1 ≤ tpN H T d t k ∧ tpN H T d t k ≤ 9 := by
  obtain ⟨x, h1, h2, h3⟩ := hH.2.2.2.2 k (isB_lt h)
  unfold tpN
  rw [if_pos h, h3, cl4 (by omega)]
  exact ⟨rfl, h1, h2⟩
theorem tp_no {H : Nat → Nat → Int32} {T : TV} {d t k : Nat} (h : ¬ isB H T d t k = true) : tpN H T d t k = 0 := by unfold tpN; rw [if_neg h]
theorem tp_9 {H : Nat → Nat → Int32} {T : TV} {a b c d t k : Nat} (hH : HOK H a b c d) : tpN H T d t k ≤ 9 := by
  by_cases h : isB H T d t k = true
  · exact (tp_of hH h).2.2
  · rw [tp_no h]; omega
theorem eqm_isOf {Post : Int32 → Mem → Prop} {M : Mem} {a b c d t k : Nat} (hC : MO M a b c d) (hk : k < 4) : wp_X12_isOf Post M (nI k) (nI t) = if isB (stM M) (tvM M) d t k = true then Post 1 M else Post 0 M := by
  have hB := hC.2.2.2.2.1
  unfold BD at hB
  have n1 := cl4 (p := k) (by omega)
  have v4 : vp_in (nI k) 4 = True := in_n (by omega) (by omega)
  have e1 : (tvM M).2.2 k = rd M 42 k := cut_lt hk
  have e2 : stM M 7 k = rd M 40 k := rfl
  unfold wp_X12_isOf isB
  rw [hC.2.2.2.1, n1, v4, e1, e2, nI_leI (by omega) (by omega)]
  by_cases h1 : d ≤ k
  · have h1' : ¬ k < d := by omega
    simp [h1, h1']
  · have h1' : k < d := by omega
    by_cases h2 : rd M 42 k = 0 <;> by_cases h3 : rd M 40 k = nI t <;> simp [h1, h1', h2, h3]
theorem eqm_top {Post : Int32 → Mem → Prop} {M : Mem} {a b c d t k : Nat} (hC : MO M a b c d) (hk : k < 4) : wp_X12_topOf Post M (nI k) (nI t) = Post (nI (tpN (stM M) (tvM M) d t k)) M := by
  have n1 := cl4 (p := k) (by omega)
  have v4 : vp_in (nI k) 4 = True := in_n (by omega) (by omega)
  unfold wp_X12_topOf
  rw [eqm_isOf hC hk]
  by_cases h : isB (stM M) (tvM M) d t k = true
  · have e8 : stM M 8 k = rd M 41 k := cut_lt hk
    rw [if_pos h, ← (tp_of hC.2.2.2.2.2 h).1, n1, e8, v4]
    simp
  · rw [if_neg h, tp_no h]
    simp
    rfl
theorem sm_outn {x : Nat → Nat} {a : Nat} : ∀ n, a ≤ n → (∀ j, a ≤ j → j < n → x j = 0) → smN x n = smN x a := by
  intro n
  induction n with
  | zero => intro h2 _; have : a = 0 := by omega
            subst this; rfl
  | succ n ih =>
    intro h2 h
    by_cases e : a = n + 1
    · subst e; rfl
    · rw [smN, h n (by omega) (by omega), ih (by omega) (fun j h3 h4 => h j h3 (by omega))]; rfl
theorem iI_0 : iI 0 = 0 := by decide
theorem sp_lessBy {Post : Int32 → Mem → Prop} {M : Mem} {a b c d : Nat} {l : Nat → Nat} {w h : Nat → Nat} {io : Nat → Bool} (hC : MO M a b c d) (hw : ∀ k, k < d → w k < 4 ∧ h k < 4 ∧ w k ≠ h k ∧ rd M 38 k = nI (w k) ∧ rd M 39 k = nI (h k)) (hio : ∀ k, k < 4 → io k = true → k < d) (hl : ∀ j, j < 4 → rd M 47 j = nI (l j)) (h9 : ∀ j, j < 4 → l j ≤ 9) (h0 : ∀ j, j < 4 → ¬ io j = true → l j = 0) (hP : ∀ M', FQ 48 M M' → Post (fL w h io l) M') : wp_X12_lessBy Post M := by
  intro P4 P24 P89 h4 h24 h89
  have hB := hC.2.2.2.2.1
  unfold BD at hB
  have un4 : ∀ p, unL w h io l 4 p = unL w h io l d p := fun p => un_no 4 (by omega) (fun i h1 h2 z => absurd (hio i h2 z.1) (by omega))
  have sm4 : smN l 4 = smN l d := sm_outn 4 (by omega) (fun j h1 h2 => h0 j h2 (fun z => absurd (hio j h2 z) (by omega)))
  have l3 : ∀ N, FQ 48 M N → (∀ p, p < 4 → rd N 48 p = iI (-(unL w h io l d p))) → P89 N (nI (smN l d)) 0 := by
    intro N f g
    have fin := hP N f
    unfold fL at fin
    rw [sm4] at fin
    simp only [un4] at fin
    have bd : ∀ p, -36 ≤ unL w h io l d p ∧ unL w h io l d p ≤ 36 := fun p => by
      have := un_bd (w := w) (h := h) (io := io) (p := p) d (fun j hj => h9 j (by omega))
      omega
    refine for_up (S := Int32) (P := fun v i => P89 N v i) (n := 4) (fun i v => (∀ p, p < i → unL w h io l d p = 0) ∧ v = nI (smN l d) ∨ (∃ p, p < i ∧ ¬ unL w h io l d p = 0) ∧ v = -1) (fun v hv => ?_) (fun i v hi hv ih => ?_) 0 (Nat.zero_le _) _ (Or.inl ⟨fun p hp => absurd hp (Nat.not_lt_zero _), rfl⟩)
    · refine h89 _ _ _ ⟨fun _ => ?_, fun z => absurd (Int32.le_refl _) z⟩
      rcases hv with ⟨e1, e2⟩ | ⟨⟨p, hp, e1⟩, e2⟩
      · rw [if_pos ⟨e1 0 (by omega), e1 1 (by omega), e1 2 (by omega), e1 3 (by omega)⟩] at fin
        rw [e2]; exact fin
      · rw [if_neg (fun z => by
          rcases (by omega : p = 0 ∨ p = 1 ∨ p = 2 ∨ p = 3) with rfl | rfl | rfl | rfl
          · exact e1 z.1
          · exact e1 z.2.1
          · exact e1 z.2.2.1
          · exact e1 z.2.2.2)] at fin
        rw [e2]; exact fin
    · have n1 := cl4 (p := i) (by omega)
      have b := bd i
      have ez : iI (-(unL w h io l d i)) = 0 ↔ unL w h io l d i = 0 := by
        rw [← iI_0, iI_eq (by omega) (by omega) (by omega) (by omega)]
        omega
      refine h89 _ _ _ ⟨fun z => absurd z (le_n (n := 4) (by omega) hi), fun _ => ⟨vp_in_nI hi (by omega), ?_⟩⟩
      rw [n1, g i hi, ez]
      refine ⟨fun z x2 hx2 => ?_, fun z x2 hx2 => ?_⟩
      · rw [hx2, nI_1]
        exact ih (-1) (Or.inr ⟨⟨i, by omega, z⟩, rfl⟩)
      · rw [hx2, nI_1]
        refine ih v ?_
        rcases hv with ⟨e1, e2⟩ | ⟨⟨p, hp, e1⟩, e2⟩
        · refine Or.inl ⟨fun p hp => ?_, e2⟩
          by_cases e : p = i
          · rw [e]; exact z
          · exact e1 p (by omega)
        · exact Or.inr ⟨⟨p, by omega, e1⟩, e2⟩
  have l2 : ∀ N, FQ 48 M N → (∀ p, p < 4 → rd N 48 p = 0) → P24 N 0 0 := by
    intro N0 f0 g0
    refine for_up (S := Mem × Int32) (P := fun s i => P24 s.1 s.2 i) (n := d) (fun i s => FQ 48 M s.1 ∧ (∀ p, p < 4 → rd s.1 48 p = iI (-(unL w h io l i p))) ∧ s.2 = nI (smN l i)) (fun s hs => ?_) (fun i s hi hs ih => ?_) 0 (Nat.zero_le _) (N0, 0) ⟨f0, fun p hp => by rw [unL, Int.neg_zero, iI_0]; exact g0 p hp, rfl⟩
    · obtain ⟨f, g, e⟩ := hs
      have hC' := f.mo (by omega) hC
      refine h24 _ _ _ ⟨fun _ => ?_, fun z => absurd (by rw [hC'.2.2.2.1]; exact Int32.le_refl _) z⟩
      rw [e]; exact l3 s.1 f g
    · obtain ⟨N, v1⟩ := s
      obtain ⟨f, g, e⟩ := hs
      have f : FQ 48 M N := f
      have g : ∀ p, p < 4 → rd N 48 p = iI (-(unL w h io l i p)) := g
      have e : v1 = nI (smN l i) := e
      have hC' := f.mo (by omega) hC
      obtain ⟨w4, h4', wh, e38, e39⟩ := hw i hi
      have n1 := cl4 (p := i) (by omega)
      have nw := cl4 (p := w i) (by omega)
      have nh := cl4 (p := h i) (by omega)
      have v4 : vp_in (nI i) 4 := vp_in_nI (by omega) (by omega)
      have vw : vp_in (nI (w i)) 4 := vp_in_nI (by omega) (by omega)
      have vh : vp_in (nI (h i)) 4 := vp_in_nI (by omega) (by omega)
      refine h24 _ _ _ ⟨fun z => absurd z (by rw [hC'.2.2.2.1]; exact le_n (by omega) hi), fun _ => ?_⟩
      have s38 : rd N 38 i = nI (w i) := by rw [f.1 38 (by omega)]; exact e38
      have s39 : ∀ u : Int32, rd (wr N 48 (w i) u) 39 i = nI (h i) := fun u => by rw [wr_n (by omega), f.1 39 (by omega)]; exact e39
      have s47 : rd N 47 i = nI (l i) := by rw [f.1 47 (by omega)]; exact hl i (by omega)
      have s47' : ∀ u : Int32, rd (wr N 48 (w i) u) 47 i = nI (l i) := fun u => by rw [wr_n (by omega)]; exact s47
      rw [n1, s38, nw, s47]
      refine ⟨v4, vw, v4, vw, ?_⟩
      rintro M3 rfl
      rw [s39, nh, s47']
      refine ⟨v4, vh, v4, vh, ?_⟩
      rintro M4 rfl
      refine ⟨v4, ?_⟩
      rintro x1 rfl x2 rfl
      rw [nI_1]
      refine ih (wr (wr N 48 (w i) (rd N 48 (w i) - nI (l i))) 48 (h i) (rd (wr N 48 (w i) (rd N 48 (w i) - nI (l i))) 48 (h i) + nI (l i)), _) ⟨(f.tr FQ.wr).tr FQ.wr, fun p hp => ?_, ?_⟩
      · show rd (wr (wr N 48 (w i) (rd N 48 (w i) - nI (l i))) 48 (h i) (rd (wr N 48 (w i) (rd N 48 (w i) - nI (l i))) 48 (h i) + nI (l i))) 48 p = _
        rw [wr_q, wr_q, wr_q, if_neg (show ¬ h i = w i from fun z => wh z.symm), g (w i) w4, g (h i) h4', g p hp, ← iI_n, iI_sub, iI_add, unL]
        have l0 := h0 i (by omega)
        by_cases z1 : p = h i
        · rw [if_pos z1]
          have z2 : ¬ w i = p := fun y => wh (y.trans z1)
          rw [if_neg (show ¬ (io i = true ∧ w i = p) from fun y => z2 y.2), ← z1]
          congr 1
          by_cases q : io i = true
          · rw [if_pos ⟨q, rfl⟩]; omega
          · rw [if_neg (fun y => q y.1), l0 q]; omega
        · rw [if_neg z1, if_neg (show ¬ (io i = true ∧ h i = p) from fun y => z1 y.2.symm)]
          by_cases z2 : p = w i
          · rw [if_pos z2, ← z2]
            congr 1
            by_cases q : io i = true
            · rw [if_pos ⟨q, rfl⟩]; omega
            · rw [if_neg (fun y => q y.1), l0 q]; omega
          · rw [if_neg z2, if_neg (show ¬ (io i = true ∧ w i = p) from fun y => z2 y.2.symm)]
            congr 1
            omega
      · show v1 + rd (wr (wr N 48 (w i) _) 48 (h i) _) 47 i = _
        rw [wr_n (by omega), wr_n (by omega), s47, e, nI_add, smN]
  refine for_up (S := Mem) (P := fun s i => P4 s 0 i) (n := 4) (fun i s => FQ 48 M s ∧ ∀ p, p < i → rd s 48 p = 0) (fun s hs => ?_) (fun i s hi hs ih => ?_) 0 (Nat.zero_le _) M ⟨FQ.rf _ _, fun p hp => absurd hp (Nat.not_lt_zero _)⟩
  · exact h4 _ _ _ ⟨fun _ => l2 s hs.1 hs.2, fun z => absurd (Int32.le_refl _) z⟩
  · have n1 := cl4 (p := i) (by omega)
    refine h4 _ _ _ ⟨fun z => absurd z (le_n (n := 4) (by omega) hi), fun _ => ⟨vp_in_nI hi (by omega), ?_⟩⟩
    rintro M1 rfl x2 rfl
    rw [nI_1, n1]
    refine ih _ ⟨hs.1.tr FQ.wr, fun p hp => ?_⟩
    rw [wr_q]
    by_cases e : p = i
    · rw [if_pos e]
    · rw [if_neg e]; exact hs.2 p (by omega)
def StM (N : Mem) (v : Int32) (S : LST) : Prop := v = S.1 ∧ (¬ S.1 = -1 → ∀ j, j < 4 → rd N 49 j = nI (S.2 j))
theorem StM.of {N N' : Mem} {v : Int32} {S : LST} (h : StM N v S) (g : ∀ j, rd N' 49 j = rd N 49 j) : StM N' v S := ⟨h.1, fun z j hj => (g j).trans (h.2 z j hj)⟩
theorem c_0 : (0 : Int32).toNatClampNeg = 0 := by decide
theorem c_1 : (1 : Int32).toNatClampNeg = 1 := by decide
theorem c_2 : (2 : Int32).toNatClampNeg = 2 := by decide
theorem c_3 : (3 : Int32).toNatClampNeg = 3 := by decide
theorem who_ok {H : Nat → Nat → Int32} {a b c d k : Nat} (hB : BD a b c d) (hH : HOK H a b c d) (hk : k < d) : whoH H k < 4 ∧ whmH H k < 4 ∧ whoH H k ≠ whmH H k ∧ H 5 k = nI (whoH H k) ∧ H 6 k = nI (whmH H k) := by
  unfold BD at hB
  obtain ⟨x, y, z, hx, hy, hxy, -, e5, e6, -⟩ := hH.2.2.2.1 k hk
  have w1 : whoH H k = x := by unfold whoH; rw [e5]; exact cl4 (by omega)
  have w2 : whmH H k = y := by unfold whmH; rw [e6]; exact cl4 (by omega)
  rw [w1, w2]
  exact ⟨by omega, by omega, hxy, e5, e6⟩
def cnl (H : Nat → Nat → Int32) (T : TV) (d t : Nat) : LST := lsF (whoH H) (whmH H) (isB H T d t) (tpN H T d t) 4 (fun _ => 0) (-1, fun _ => 0)
theorem sp_layCancel {Post : Int32 → Mem → Prop} {M : Mem} {a b c d t : Nat} (hC : MO M a b c d) (h : ∀ N v, FJ 47 49 M N → StM N v (cnl (stM M) (tvM M) d t) → Post v N) : wp_X12_layCancel Post M (nI t) := by
  intro P9 P31 P53 P75 h9 h31 h53 h75
  have hB := hC.2.2.2.2.1
  have hB2 := hB
  unfold BD at hB
  have hH := hC.2.2.2.2.2
  unfold cnl at h
  obtain ⟨tp, htp⟩ : ∃ tp, tp = tpN (stM M) (tvM M) d t := ⟨_, rfl⟩
  obtain ⟨io, hio⟩ : ∃ io, io = isB (stM M) (tvM M) d t := ⟨_, rfl⟩
  obtain ⟨w, hw⟩ : ∃ w, w = whoH (stM M) := ⟨_, rfl⟩
  obtain ⟨hh, hhh⟩ : ∃ hh, hh = whmH (stM M) := ⟨_, rfl⟩
  have t9 : ∀ k, tp k ≤ 9 := fun k => by rw [htp]; exact tp_9 hH
  have t0 : ∀ k, ¬ io k = true → tp k = 0 := fun k hk => by rw [htp]; rw [hio] at hk; exact tp_no hk
  have iod : ∀ k, k < 4 → io k = true → k < d := fun k _ hk => by rw [hio] at hk; exact isB_lt hk
  have ww : ∀ k, k < d → w k < 4 ∧ hh k < 4 ∧ w k ≠ hh k ∧ rd M 38 k = nI (w k) ∧ rd M 39 k = nI (hh k) := fun k hk => by rw [hw, hhh]; exact who_ok hB2 hH hk
  have topk : ∀ k, k < 4 → ∀ N, FJ 47 49 M N → ∀ P, wp_X12_topOf P N (nI k) (nI t) = P (nI (tp k)) N := fun k hk N f P => by
    have e := eqm_top (k := k) (t := t) (Post := P) (f.mo (by omega) hC) hk
    rw [f.stM (by omega), f.tvM (by omega), ← htp] at e
    exact e
  have top0 : ∀ N, FJ 47 49 M N → ∀ P, wp_X12_topOf P N 0 (nI t) = P (nI (tp 0)) N := topk 0 (by omega)
  have top1 : ∀ N, FJ 47 49 M N → ∀ P, wp_X12_topOf P N 1 (nI t) = P (nI (tp 1)) N := topk 1 (by omega)
  have top2 : ∀ N, FJ 47 49 M N → ∀ P, wp_X12_topOf P N 2 (nI t) = P (nI (tp 2)) N := topk 2 (by omega)
  have top3 : ∀ N, FJ 47 49 M N → ∀ P, wp_X12_topOf P N 3 (nI t) = P (nI (tp 3)) N := topk 3 (by omega)
  have t90 := t9 0
  have t91 := t9 1
  have t92 := t9 2
  have t93 := t9 3
  have q0 : vp_in 0 4 := vp_in_nI (n := 0) (by omega) (by omega)
  have q1 : vp_in 1 4 := vp_in_nI (n := 1) (by omega) (by omega)
  have q2 : vp_in 2 4 := vp_in_nI (n := 2) (by omega) (by omega)
  have q3 : vp_in 3 4 := vp_in_nI (n := 3) (by omega) (by omega)
  rw [← htp, ← hio, ← hw, ← hhh] at h
  have lby : ∀ N l, FJ 47 49 M N → (∀ j, j < 4 → rd N 47 j = nI (l j)) → (∀ j, j < 4 → l j ≤ tp j) → ∀ {P : Int32 → Mem → Prop}, (∀ M', FQ 48 N M' → P (fL w hh io l) M') → wp_X12_lessBy P N := by
    intro N l f hl hb P hP
    refine sp_lessBy (f.mo (by omega) hC) (fun k hk => ?_) iod hl (fun j hj => Nat.le_trans (hb j hj) (t9 j)) (fun j hj hi => ?_) hP
    · rw [f.1 38 (by omega), f.1 39 (by omega)]; exact ww k hk
    · have := hb j hj
      rw [t0 j hi] at this
      omega
  have L3 : ∀ m v N v2 l S, v + m = tp 3 + 1 → FJ 47 49 M N → (∀ j, j < 4 → rd N 47 j = nI (ups l 3 v j)) → (∀ j, j < 3 → l j ≤ tp j) → StM N v2 S → (∀ N' v2', FJ 47 49 M N' → (∀ j, j < 3 → rd N' 47 j = nI (l j)) → StM N' v2' (fdF (fun v U => lsF w hh io tp 0 (ups l 3 v) U) v m S) → P53 (wr N' 47 2 (rd N' 47 2 + 1)) v2') → P75 N v2 := by
    intro m
    induction m with
    | zero =>
      intro v N v2 l S hv f hl hb st K
      refine h75 _ _ ⟨q3, ?_⟩
      rw [top3 N f, c_3, hl 3 (by omega), ups_s]
      refine ⟨fun _ => ⟨q2, q2, ?_⟩, fun z => absurd (nI_lt (by omega) (by omega)) z⟩
      rintro M1 rfl
      rw [c_2]
      exact K N v2 f (fun j hj => by rw [hl j (by omega), ups_n (by omega)]) st
    | succ m ih =>
      intro v N v2 l S hv f hl hb st K
      refine h75 _ _ ⟨q3, ?_⟩
      rw [top3 N f, c_3, hl 3 (by omega), ups_s]
      refine ⟨fun z => absurd z (nI_nlt (by omega) (by omega)), fun _ => ?_⟩
      have hb4 : ∀ j, j < 4 → ups l 3 v j ≤ tp j := fun j hj => by
        by_cases e : j = 3
        · rw [e, ups_s]; omega
        · rw [ups_n e]; exact hb j (by omega)
      have go : ∀ N1 v3, FJ 47 49 M N1 → (∀ j, j < 4 → rd N1 47 j = nI (ups l 3 v j)) → StM N1 v3 (kpL (fL w hh io (ups l 3 v)) (ups l 3 v) S) → wp_X12_layCancel_b113 Post (nI t) P9 P31 P53 P75 N1 v3 := by
        intro N1 v3 f1 hl1 st1
        refine ⟨q3, q3, ?_⟩
        rintro M20 rfl
        rw [c_3]
        refine ih (v + 1) _ v3 l _ (by omega) (f1.tr (FJ.wr (by omega) (by omega))) (fun j hj => ?_) hb (st1.of (fun j => by rw [wr_n (by omega)])) K
        rw [wr_q, hl1 3 (by omega), ups_s, nI_1]
        by_cases e : j = 3
        · rw [if_pos e, e, ups_s]
        · rw [if_neg e, ups_n e, hl1 j hj, ups_n e]
      refine lby N (ups l 3 v) f hl hb4 (fun M17 f17 => ?_)
      have F17 := f.tr (f17.fj (lo := 47) (hi := 49) (by omega) (by omega))
      have hl17 : ∀ j, j < 4 → rd M17 47 j = nI (ups l 3 v j) := fun j hj => by rw [f17.1 47 (by omega)]; exact hl j hj
      have e1 : v2 = S.1 := st.1
      unfold kpL at go
      refine ⟨fun z => go M17 v2 F17 hl17 ?_, fun z => ?_⟩
      · rw [if_pos (by rw [← e1]; exact z)]
        exact st.of (fun j => f17.1 49 (by omega) j)
      · refine sp_copy (by omega) (by omega) (fun M19 u19 w19 x19 => ?_)
        refine go M19 _ (F17.tr ⟨fun q hq j => u19 q (by omega) j, x19⟩) (fun j hj => by rw [u19 47 (by omega)]; exact hl17 j hj) ?_
        rw [if_neg (by rw [← e1]; exact z)]
        exact ⟨rfl, fun _ j hj => by rw [w19 j, if_pos hj]; exact hl17 j hj⟩
  have L2 : ∀ m v N v2 l S, v + m = tp 2 + 1 → FJ 47 49 M N → (∀ j, j < 3 → rd N 47 j = nI (ups l 2 v j)) → (∀ j, j < 2 → l j ≤ tp j) → StM N v2 S → (∀ N' v2', FJ 47 49 M N' → (∀ j, j < 2 → rd N' 47 j = nI (l j)) → StM N' v2' (fdF (fun v U => lsF w hh io tp 1 (ups l 2 v) U) v m S) → P31 (wr N' 47 1 (rd N' 47 1 + 1)) v2') → P53 N v2 := by
    intro m
    induction m with
    | zero =>
      intro v N v2 l S hv f hl hb st K
      refine h53 _ _ ⟨q2, ?_⟩
      rw [top2 N f, c_2, hl 2 (by omega), ups_s]
      refine ⟨fun _ => ⟨q1, q1, ?_⟩, fun z => absurd (nI_lt (by omega) (by omega)) z⟩
      rintro M1 rfl
      rw [c_1]
      exact K N v2 f (fun j hj => by rw [hl j (by omega), ups_n (by omega)]) st
    | succ m ih =>
      intro v N v2 l S hv f hl hb st K
      refine h53 _ _ ⟨q2, ?_⟩
      rw [top2 N f, c_2, hl 2 (by omega), ups_s]
      refine ⟨fun z => absurd z (nI_nlt (by omega) (by omega)), fun _ => ⟨q3, ?_⟩⟩
      rintro M1 rfl
      rw [c_3]
      refine L3 (tp 3 + 1) 0 _ v2 (ups l 2 v) S (by omega) (f.tr (FJ.wr (by omega) (by omega))) (fun j hj => ?_) (fun j hj => ?_) (st.of (fun j => by rw [wr_n (by omega)])) (fun N' v2' f' hl' st' => ?_)
      · rw [wr_q]
        by_cases e : j = 3
        · rw [if_pos e, e, ups_s]; rfl
        · rw [if_neg e, ups_n e]; exact hl j (by omega)
      · by_cases e : j = 2
        · rw [e, ups_s]; omega
        · rw [ups_n e]; exact hb j (by omega)
      · refine ih (v + 1) _ v2' l _ (by omega) (f'.tr (FJ.wr (by omega) (by omega))) (fun j hj => ?_) hb (st'.of (fun j => by rw [wr_n (by omega)])) K
        rw [wr_q, hl' 2 (by omega), ups_s, nI_1]
        by_cases e : j = 2
        · rw [if_pos e, e, ups_s]
        · rw [if_neg e, ups_n e, hl' j hj, ups_n e]
  have L1 : ∀ m v N v2 l S, v + m = tp 1 + 1 → FJ 47 49 M N → (∀ j, j < 2 → rd N 47 j = nI (ups l 1 v j)) → (∀ j, j < 1 → l j ≤ tp j) → StM N v2 S → (∀ N' v2', FJ 47 49 M N' → (∀ j, j < 1 → rd N' 47 j = nI (l j)) → StM N' v2' (fdF (fun v U => lsF w hh io tp 2 (ups l 1 v) U) v m S) → P9 (wr N' 47 0 (rd N' 47 0 + 1)) v2') → P31 N v2 := by
    intro m
    induction m with
    | zero =>
      intro v N v2 l S hv f hl hb st K
      refine h31 _ _ ⟨q1, ?_⟩
      rw [top1 N f, c_1, hl 1 (by omega), ups_s]
      refine ⟨fun _ => ⟨q0, q0, ?_⟩, fun z => absurd (nI_lt (by omega) (by omega)) z⟩
      rintro M1 rfl
      rw [c_0]
      exact K N v2 f (fun j hj => by rw [hl j (by omega), ups_n (by omega)]) st
    | succ m ih =>
      intro v N v2 l S hv f hl hb st K
      refine h31 _ _ ⟨q1, ?_⟩
      rw [top1 N f, c_1, hl 1 (by omega), ups_s]
      refine ⟨fun z => absurd z (nI_nlt (by omega) (by omega)), fun _ => ⟨q2, ?_⟩⟩
      rintro M1 rfl
      rw [c_2]
      refine L2 (tp 2 + 1) 0 _ v2 (ups l 1 v) S (by omega) (f.tr (FJ.wr (by omega) (by omega))) (fun j hj => ?_) (fun j hj => ?_) (st.of (fun j => by rw [wr_n (by omega)])) (fun N' v2' f' hl' st' => ?_)
      · rw [wr_q]
        by_cases e : j = 2
        · rw [if_pos e, e, ups_s]; rfl
        · rw [if_neg e, ups_n e]; exact hl j (by omega)
      · by_cases e : j = 1
        · rw [e, ups_s]; omega
        · rw [ups_n e]; exact hb j (by omega)
      · refine ih (v + 1) _ v2' l _ (by omega) (f'.tr (FJ.wr (by omega) (by omega))) (fun j hj => ?_) hb (st'.of (fun j => by rw [wr_n (by omega)])) K
        rw [wr_q, hl' 1 (by omega), ups_s, nI_1]
        by_cases e : j = 1
        · rw [if_pos e, e, ups_s]
        · rw [if_neg e, ups_n e, hl' j hj, ups_n e]
  have L0 : ∀ m v N v2 l S, v + m = tp 0 + 1 → FJ 47 49 M N → (∀ j, j < 1 → rd N 47 j = nI (ups l 0 v j)) → (∀ j, j < 0 → l j ≤ tp j) → StM N v2 S → (∀ N' v2', FJ 47 49 M N' → (∀ j, j < 0 → rd N' 47 j = nI (l j)) → StM N' v2' (fdF (fun v U => lsF w hh io tp 3 (ups l 0 v) U) v m S) → Post v2' N') → P9 N v2 := by
    intro m
    induction m with
    | zero =>
      intro v N v2 l S hv f hl hb st K
      refine h9 _ _ ⟨q0, ?_⟩
      rw [top0 N f, c_0, hl 0 (by omega), ups_s]
      exact ⟨fun _ => K N v2 f (fun j hj => absurd hj (Nat.not_lt_zero _)) st, fun z => absurd (nI_lt (by omega) (by omega)) z⟩
    | succ m ih =>
      intro v N v2 l S hv f hl hb st K
      refine h9 _ _ ⟨q0, ?_⟩
      rw [top0 N f, c_0, hl 0 (by omega), ups_s]
      refine ⟨fun z => absurd z (nI_nlt (by omega) (by omega)), fun _ => ⟨q1, ?_⟩⟩
      rintro M1 rfl
      rw [c_1]
      refine L1 (tp 1 + 1) 0 _ v2 (ups l 0 v) S (by omega) (f.tr (FJ.wr (by omega) (by omega))) (fun j hj => ?_) (fun j hj => ?_) (st.of (fun j => by rw [wr_n (by omega)])) (fun N' v2' f' hl' st' => ?_)
      · rw [wr_q]
        by_cases e : j = 1
        · rw [if_pos e, e, ups_s]; rfl
        · rw [if_neg e, ups_n e]; exact hl j (by omega)
      · by_cases e : j = 0
        · rw [e, ups_s]; omega
        · rw [ups_n e]; exact hb j (by omega)
      · refine ih (v + 1) _ v2' l _ (by omega) (f'.tr (FJ.wr (by omega) (by omega))) (fun j hj => ?_) hb (st'.of (fun j => by rw [wr_n (by omega)])) K
        rw [wr_q, hl' 0 (by omega), ups_s, nI_1]
        by_cases e : j = 0
        · rw [if_pos e, e, ups_s]
        · rw [if_neg e, ups_n e, hl' j hj, ups_n e]
  refine ⟨q0, ?_⟩
  rintro M1 rfl
  rw [c_0]
  refine L0 (tp 0 + 1) 0 _ (-1) (fun _ => 0) (-1, fun _ => 0) (by omega) (FJ.wr (by omega) (by omega)) (fun j hj => ?_) (fun j hj => absurd hj (Nat.not_lt_zero _)) ⟨rfl, fun z => absurd rfl z⟩ (fun N' v2' f' _ st' => h N' v2' f' st')
  have e : j = 0 := by omega
  subst e
  rw [wr_s]
  rfl
def cnR (S : LST) (io : Nat → Bool) (v : Int32) : Int32 := if v = 0 then S.1 else if io (v - 10).toNatClampNeg = true then nI (S.2 (v - 10).toNatClampNeg) else -1
theorem sp_cancelOf {Post : Int32 → Mem → Prop} {M : Mem} {a b c d t : Nat} {v : Int32} (hC : MO M a b c d) (hv : v = 0 ∨ ∃ m, m ≤ 3 ∧ v = nI (10 + m)) (h : ∀ N, FJ 47 49 M N → Post (cnR (cnl (stM M) (tvM M) d t) (isB (stM M) (tvM M) d t) v) N) : wp_X12_cancelOf Post M (nI t) v := by
  refine sp_layCancel hC (fun N r f st => ?_)
  have fin := h N f
  have ne : ¬ (cnl (stM M) (tvM M) d t).1 = -1 := ge0_ne (ls_zero 4 _)
  unfold cnR at fin
  refine ⟨fun z => ?_, fun z => ?_⟩
  · rcases hv with e | ⟨m, hm, e⟩
    · exact absurd e z
    · rw [if_neg z, e, v10, cl4 (by omega)] at fin
      rw [e, v10, eqm_isOf (f.mo (by omega) hC) (by omega), f.stM (by omega), f.tvM (by omega), cl4 (by omega)]
      by_cases q : isB (stM M) (tvM M) d t m = true
      · rw [if_pos q] at fin ⊢
        refine ⟨fun y => absurd y (by decide), fun _ => ⟨vp_in_nI (by omega) (by omega), ?_⟩⟩
        rw [st.2 ne m (by omega)]; exact fin
      · rw [if_neg q] at fin ⊢
        exact ⟨fun _ => fin, fun y => absurd rfl y⟩
  · rw [if_pos z] at fin
    rw [st.1]; exact fin
