/-! ===== rings of debts: both ===== -/
theorem sp_searchR {Post : Mem → Prop} {M : Mem} {a b c d t : Nat} (hC : CO M 59 a b c d) (h : ∀ M', FJ 23 28 M M' → StR (isB (stC M 59) (tvC M 59) d t) M' (cnl (stC M 59) (tvC M 59) d t) → Post M') : wp_X9_search Post M 59 (nI t) := by
  intro P2 P29 h2 h29
  have hB := hC.2.2.2.2.1
  have hB2 := hB
  unfold BD at hB
  have hH := hC.2.2.2.2.2
  unfold cnl at h
  have e8 : ∀ k, k < 4 → stC M 59 8 k = rd M 63 k := fun k hk => cut_lt hk
  have ep : ∀ k, k < 4 → (tvC M 59).2.2 k = rd M 64 k := fun k hk => cut_lt hk
  have e7 : ∀ k, stC M 59 7 k = rd M 10 k := fun k => rfl
  have ioi : ∀ k, isB (stC M 59) (tvC M 59) d t k = true ↔ k < d ∧ (tvC M 59).2.2 k = 0 ∧ stC M 59 7 k = nI t := fun k => decide_eq_true_iff
  obtain ⟨tp, htp⟩ : ∃ tp, tp = tpN (stC M 59) (tvC M 59) d t := ⟨_, rfl⟩
  obtain ⟨io, hio⟩ : ∃ io, io = isB (stC M 59) (tvC M 59) d t := ⟨_, rfl⟩
  obtain ⟨w, hw⟩ : ∃ w, w = whoH (stC M 59) := ⟨_, rfl⟩
  obtain ⟨hh, hhh⟩ : ∃ hh, hh = whmH (stC M 59) := ⟨_, rfl⟩
  have t9 : ∀ k, tp k ≤ 9 := fun k => by rw [htp]; exact tp_9 hH
  have t0 : ∀ k, k < 4 → ¬ io k = true → tp k = 0 := fun k _ hk => by rw [htp]; rw [hio] at hk; exact tp_no hk
  have ww : ∀ k, k < d → w k < 4 ∧ hh k < 4 ∧ w k ≠ hh k ∧ rd M 8 k = nI (w k) ∧ rd M 9 k = nI (hh k) := fun k hk => by rw [hw, hhh]; exact who_ok hB2 hH hk
  have iod : ∀ k, io k = true → k < d := fun k hk => by rw [hio] at hk; exact isB_lt hk
  have tpo : ∀ k, k < 4 → io k = true → rd M 63 k = nI (tp k) := fun k hk hi => by
    rw [hio] at hi
    rw [htp, ← e8 k hk]; exact (tp_of hH hi).1
  rw [← htp, ← hio, ← hw, ← hhh] at h
  rw [← hio] at ioi
  rw [ls_cl (fun k hk hi => ⟨(ww k (iod k hi)).1, (ww k (iod k hi)).2.1, (ww k (iod k hi)).2.2.1⟩) t0 4 _ _ (Nat.le_refl _) (fun p hp j hj => absurd hj (by omega)) (Int32.le_refl _)] at h
  have debts : ∀ N, FJ 23 28 M N → (∀ p, p < 4 → rd N 27 p = -1) → (∀ p, p < 4 → rd N 28 p = 0) → P29 N 0 := by
    intro N0 f0 g0 k0
    refine for_up (S := Mem) (P := P29) (n := 4) (fun k s => FJ 23 28 M s ∧ (∀ p, p < 4 → rd s 28 p = 0) ∧ (∀ p, p < 4 → rd s 27 p = lsT w hh io k p) ∧ (∀ j, j < k → rd s 25 j = -1) ∧ ∀ j, j < k → rd s 24 j = if io j = true then nI (tp j) else -1) (fun s hs => ?_) (fun k s hk hs ih => ?_) 0 (Nat.zero_le _) N0 ⟨f0, k0, g0, fun j hj => absurd hj (Nat.not_lt_zero _), fun j hj => absurd hj (Nat.not_lt_zero _)⟩
    · obtain ⟨f, g28, g27, g25, g24⟩ := hs
      refine h29 _ _ ⟨fun _ => ?_, fun z => absurd (Int32.le_refl _) z⟩
      rintro M4 rfl
      have o : ∀ q, q ≠ 23 → ∀ j, rd (wr s 23 6 (-1)) q j = rd s q j := fun q hq j => wr_n hq j
      refine sp_lessen (w := w) (h := hh) (io := io) (tp := tp) (fun k hk hi => ⟨(ww k (iod k hi)).1, (ww k (iod k hi)).2.1, (ww k (iod k hi)).2.2.1⟩) t9 4 0 (by omega) 6 (by omega) _ (wr s 23 6 (-1)) (fun _ => 0) 0 (-1, fun _ => 0) ⟨fun j hj => ?_, fun p hp => ?_, fun j hj hi => ?_, fun j hj hi => ?_⟩ (fun j hj => absurd hj (Nat.not_lt_zero _)) (fun j hj => absurd hj (Nat.not_lt_zero _)) (fun p hp => ?_) rfl ⟨wr_s _ _ _ _, fun z => absurd rfl z⟩ (fun M' f' st' => h M' ⟨fun q hq j => ?_, ?_⟩ st')
      · rw [o 24 (by omega)]; exact g24 j hj
      · rw [o 27 (by omega)]; exact g27 p hp
      · rw [o 8 (by omega), o 9 (by omega), f.1 8 (by omega), f.1 9 (by omega)]
        exact ⟨(ww j (iod j hi)).2.2.2.1, (ww j (iod j hi)).2.2.2.2⟩
      · rw [o 25 (by omega)]; exact g25 j hj
      · rw [o 28 (by omega), g28 p hp, unL, iI_0]
      · rw [f'.1 q (by omega) (by omega) (by omega) (by omega), o q (by omega), f.1 q hq]
      · exact f'.2.2.2.trans f.2
    · obtain ⟨f, g28, g27, g25, g24⟩ := hs
      have n1 := cl4 (p := k) (by omega)
      have v4 : vp_in (nI k) 4 := vp_in_nI hk (by omega)
      refine h29 _ _ ⟨fun z => absurd z (le_n (n := 4) (by omega) hk), fun _ => ⟨v4, ?_⟩⟩
      rintro M7 rfl
      refine ⟨v4, ?_⟩
      rintro M8 rfl
      rw [n1]
      have o : ∀ q, q ≠ 24 → q ≠ 25 → ∀ j, rd (wr (wr s 25 k (-1)) 24 k (-1)) q j = rd s q j := fun q h1 h2 j => by rw [wr_n h1, wr_n h2]
      have f8 : FJ 23 28 M (wr (wr s 25 k (-1)) 24 k (-1)) := (f.tr (FJ.wr (by omega) (by omega))).tr (FJ.wr (by omega) (by omega))
      have m25 : ∀ j, j < k + 1 → rd (wr (wr s 25 k (-1)) 24 k (-1)) 25 j = -1 := fun j hj => by
        rw [wr_n (by omega), wr_q]
        by_cases e : j = k
        · rw [if_pos e]
        · rw [if_neg e]; exact g25 j (by omega)
      have m24 : ∀ j, rd (wr (wr s 25 k (-1)) 24 k (-1)) 24 j = if j = k then -1 else rd s 24 j := fun j => by rw [wr_q, wr_n (by omega)]
      generalize wr (wr s 25 k (-1)) 24 k (-1) = N at o f8 m25 m24 ⊢
      have r3 : rd N 3 3 = nI d := by rw [f8.1 3 (by omega)]; exact hC.2.2.2.1
      have r10 : rd N 10 k = stC M 59 7 k := by rw [f8.1 10 (by omega)]; rfl
      have r64 : rd N (59 + 5) k = (tvC M 59).2.2 k := by rw [f8.1 (59 + 5) (by omega), ep k hk]
      have non : ¬ io k = true → ∀ x3 : Int32, x3 = nI k + 1 → P29 N x3 := by
        rintro ik x3 rfl
        rw [nI_1]
        refine ih N ⟨f8, fun p hp => by rw [o 28 (by omega) (by omega)]; exact g28 p hp, fun p hp => ?_, m25, fun j hj => ?_⟩
        · rw [o 27 (by omega) (by omega), lsT, if_neg (fun z => ik z.1)]; exact g27 p hp
        · rw [m24 j]
          by_cases e : j = k
          · rw [if_pos e, if_neg (by rw [e]; exact ik)]
          · rw [if_neg e]; exact g24 j (by omega)
      rw [r3, r10, r64, nI_leI (by omega) (by omega)]
      refine ⟨fun z => non (fun y => absurd ((ioi k).mp y).1 (by omega)), fun z => ⟨v4, fun y => non (fun x => y ((ioi k).mp x).2.2), fun y => ⟨v4, fun u => non (fun x => u ((ioi k).mp x).2.1), fun u => ⟨v4, v4, ?_⟩⟩⟩⟩
      have ik : io k = true := (ioi k).mpr ⟨by omega, u, y⟩
      obtain ⟨w4, h4, wh, e8', e9'⟩ := ww k (iod k ik)
      have nw := cl4 (p := w k) (by omega)
      have nh := cl4 (p := hh k) (by omega)
      rintro M12 rfl
      have r63 : rd N (59 + 4) k = nI (tp k) := by rw [f8.1 (59 + 4) (by omega)]; exact tpo k hk ik
      rw [r63]
      have s8 : rd (wr N 24 k (nI (tp k))) 8 k = nI (w k) := by rw [wr_n (by omega), f8.1 8 (by omega)]; exact e8'
      rw [s8, nw]
      refine ⟨v4, vp_in_nI (by omega) (by omega), ?_⟩
      rintro M13 rfl
      have s9 : rd (wr (wr N 24 k (nI (tp k))) 27 (w k) (nI k)) 9 k = nI (hh k) := by rw [wr_n (by omega), wr_n (by omega), f8.1 9 (by omega)]; exact e9'
      rw [s9, nh]
      refine ⟨v4, vp_in_nI (by omega) (by omega), ?_⟩
      rintro M14 rfl x3 rfl
      rw [nI_1]
      refine ih _ ⟨((f8.tr (FJ.wr (by omega) (by omega))).tr (FJ.wr (by omega) (by omega))).tr (FJ.wr (by omega) (by omega)), fun p hp => ?_, fun p hp => ?_, fun j hj => ?_, fun j hj => ?_⟩
      · rw [wr_n (by omega), wr_n (by omega), wr_n (by omega), o 28 (by omega) (by omega)]; exact g28 p hp
      · rw [wr_q, wr_q, wr_n (by omega), o 27 (by omega) (by omega), lsT]
        by_cases z1 : p = hh k
        · rw [if_pos z1, if_pos ⟨ik, Or.inr z1.symm⟩]
        · rw [if_neg z1]
          by_cases z2 : p = w k
          · rw [if_pos z2, if_pos ⟨ik, Or.inl z2.symm⟩]
          · rw [if_neg z2, if_neg (fun q => by rcases q.2 with q | q; exact z2 q.symm; exact z1 q.symm)]; exact g27 p hp
      · rw [wr_n (by omega), wr_n (by omega), wr_n (by omega)]; exact m25 j hj
      · rw [wr_n (by omega), wr_n (by omega), wr_q, m24 j]
        by_cases e : j = k
        · rw [if_pos e, e, if_pos ik]
        · rw [if_neg e, if_neg e]; exact g24 j (by omega)
  refine for_up (S := Mem) (P := P2) (n := 4) (fun i s => FJ 23 28 M s ∧ (∀ p, p < i → rd s 27 p = -1) ∧ ∀ p, p < i → rd s 28 p = 0) (fun s hs => ?_) (fun i s hi hs ih => ?_) 0 (Nat.zero_le _) M ⟨FJ.rf _ _ _, fun p hp => absurd hp (Nat.not_lt_zero _), fun p hp => absurd hp (Nat.not_lt_zero _)⟩
  · exact h2 _ _ ⟨fun _ => debts s hs.1 hs.2.1 hs.2.2, fun z => absurd (Int32.le_refl _) z⟩
  · have n1 := cl4 (p := i) (by omega)
    have v4 : vp_in (nI i) 4 := vp_in_nI hi (by omega)
    refine h2 _ _ ⟨fun z => absurd z (le_n (n := 4) (by omega) hi), fun _ => ⟨v4, ?_⟩⟩
    rintro M1 rfl
    refine ⟨v4, ?_⟩
    rintro M2 rfl x3 rfl
    rw [nI_1, n1]
    refine ih _ ⟨(hs.1.tr (FJ.wr (by omega) (by omega))).tr (FJ.wr (by omega) (by omega)), fun p hp => ?_, fun p hp => ?_⟩
    · rw [wr_n (by omega), wr_q]
      by_cases e : p = i
      · rw [if_pos e]
      · rw [if_neg e]; exact hs.2.1 p (by omega)
    · rw [wr_q, wr_n (by omega)]
      by_cases e : p = i
      · rw [if_pos e]
      · rw [if_neg e]; exact hs.2.2 p (by omega)
theorem ob_cancel {n : Nat} {M : Mem} (hI : Inv n M) {a b c d : Nat} (hC : CO M 59 a b c d) (hM : MO M a b c d) {t : Nat} (ht : t < a) {v : Int32} (hv : v = 0 ∨ ∃ m, m ≤ 3 ∧ v = nI (10 + m)) : OB (fun P M => wp_X11_cancel P M (nI t) v) (fun P M => wp_X12_cancelOf P M (nI t) v) M := by
  have hB := hC.2.2.2.2.1
  have hB2 := hB
  unfold BD at hB
  have vt : vp_in (nI t) a := vp_in_nI ht (by omega)
  have ne : ¬ (cnl (stM M) (tvM M) d t).1 = -1 := ge0_ne (ls_zero 4 _)
  refine ⟨cnR (cnl (stM M) (tvM M) d t) (isB (stM M) (tvM M) d t) v, fun M1 P f h => ?_, fun M1 P f h => ?_⟩
  · have hC1 := (f.both hI hC hM).1
    have hs := f.cs hI
    have ht := f.ct hI
    have key : wp_X11_cancel_b30 P (nI t) v M1 := by
      refine sp_searchR hC1 (fun M4 f4 st => ?_)
      rw [hs, ht] at st
      have h := h M4 (f4.fr (by omega)) f4.2
      unfold cnR at h
      refine ⟨fun z => ?_, fun z => ?_⟩
      · rw [if_neg z] at h
        rcases hv with e | ⟨m, hm3, e⟩
        · exact absurd e z
        · rw [e, v10, cl4 (by omega)] at h
          rw [e, v10, cl4 (by omega), st.2 ne m (by omega)]
          exact ⟨vp_in_nI (by omega) (by omega), h⟩
      · rw [if_pos z] at h
        rw [st.1]; exact h
    show wp_X11_cancel P M1 (nI t) v
    unfold wp_X11_cancel
    rw [eq_isNoRoom hC1.1 (by omega)]
    refine ⟨fun _ => ⟨fun _ => ⟨fun _ => key, fun z => ?_⟩, fun z => absurd rfl z⟩, fun z => absurd vt z⟩
    rcases hv with e | ⟨m, hm3, e⟩
    · exact absurd e z
    · exact ⟨fun q => absurd q (by rw [e]; exact nI_nlt (a := 10 + m) (b := 10) (by omega) (by omega)), fun _ => ⟨fun _ => key, fun q => absurd (by rw [e]; exact nI_le (a := 10 + m) (b := 13) (by omega) (by omega)) q⟩⟩
  · have hM1 := (f.both hI hC hM).2
    refine sp_cancelOf hM1 hv (fun M' f' => ?_)
    rw [f.st, f.tv]
    exact h M' (f'.fr (by omega)) f'.2
theorem ob_cancel' {n : Nat} {M : Mem} (hI : Inv n M) (v1 v2 : Int32) : OB (fun P M => wp_X11_cancel P M v1 v2) (fun P M => wp_X12_cancel P M v1 v2) M := by
  obtain ⟨a, b, c, d, hC, hM, hT⟩ := hI.both
  have hB := hC.2.2.2.2.1
  unfold BD at hB
  by_cases ht : vp_in v1 a
  · have i2 := in_iff (v := v2) (b := 10) (c := 13) (lo := 10) (hi := 13) (by decide) (by decide)
    by_cases good : v2 = 0 ∨ 10 ≤ v2.toInt ∧ v2.toInt ≤ 13
    · obtain ⟨t, ht1, rfl⟩ := vp_ex ht (by omega)
      have hv2 : v2 = 0 ∨ ∃ m, m ≤ 3 ∧ v2 = nI (10 + m) := by
        rcases good with e | e
        · exact Or.inl e
        · obtain ⟨x, hx, rfl⟩ := vp_ex (v := v2) (n := 14) (vp_iff.mpr (by omega)) (by omega)
          rw [nI_toInt (by omega)] at e
          exact Or.inr ⟨x - 10, by omega, by rw [show 10 + (x - 10) = x by omega]⟩
      refine (ob_cancel hI hC hM ht1 hv2).mdl (fun M1 P f h => ?_)
      have hM1 := (f.both hI hC hM).2
      unfold wp_X12_cancel
      rw [eq_isRoom hM1.1 (by omega)]
      refine ⟨fun _ => ⟨fun _ => ⟨fun _ => h, fun z => ?_⟩, fun z => absurd z (by decide)⟩, fun z => absurd ht z⟩
      rw [eq_in]
      rcases good with e | e
      · exact absurd e z
      · rw [if_pos (i2.mpr e)]
        exact ⟨fun z => absurd z (by decide), fun _ => h⟩
    · have l10 : v2 < 10 ↔ v2.toInt < 10 := by rw [Int32.lt_iff_toInt_lt]; rfl
      have l13 : v2 ≤ 13 ↔ v2.toInt ≤ 13 := by rw [Int32.le_iff_toInt_le]; rfl
      refine OB.one (-102) (fun M1 P f h => ?_) (fun M1 P f h => ?_)
      · have hC1 := (f.both hI hC hM).1
        unfold wp_X11_cancel
        rw [eq_isNoRoom hC1.1 (by omega)]
        refine ⟨fun _ => ⟨fun _ => ⟨fun z => absurd (Or.inl z) good, fun _ => ⟨fun _ => h, fun y4 => ⟨fun y5 => ?_, fun _ => h⟩⟩⟩, fun z => absurd rfl z⟩, fun z => absurd ht z⟩
        rw [l10] at y4
        rw [l13] at y5
        exact absurd (Or.inr ⟨by omega, by omega⟩) good
      · have hM1 := (f.both hI hC hM).2
        unfold wp_X12_cancel
        rw [eq_isRoom hM1.1 (by omega)]
        refine ⟨fun _ => ⟨fun _ => ⟨fun z => absurd (Or.inl z) good, fun _ => ?_⟩, fun z => absurd z (by decide)⟩, fun z => absurd ht z⟩
        rw [eq_in, if_neg (fun k => good (Or.inr (i2.mp k)))]
        exact ⟨fun _ => h, fun z => absurd rfl z⟩
  · refine OB.one (-101) (fun M1 P f h => ?_) (fun M1 P f h => ?_)
    · have hC1 := (f.both hI hC hM).1
      unfold wp_X11_cancel
      rw [eq_isNoRoom hC1.1 (by omega)]
      exact ⟨fun z => absurd z ht, fun _ => ⟨fun z => absurd z (by decide), fun _ => h⟩⟩
    · have hM1 := (f.both hI hC hM).2
      unfold wp_X12_cancel
      rw [eq_isRoom hM1.1 (by omega)]
      exact ⟨fun z => absurd z ht, fun _ => ⟨fun z => absurd rfl z, fun _ => h⟩⟩
