theorem cmp_self (r : Int64) : lg_cmp r r = 0 := by
  unfold lg_cmp
  rw [if_neg (fun h => by have := Int64.lt_iff_toInt_lt.mp h; omega), if_pos rfl]
/-- the part of digest that is there with people alone -/
theorem hb_tail {n : Nat} {M : Mem} (hI : Inv n M) {a b c d : Nat} (hC : CO M 59 a b c d) (hM : MO M a b c d) (hT : TOK (tvM M) a c) : ∃ f : Int64 → Int64, (∀ (M1 : Mem) (h : Int64) (P199 : Mem → Int64 → Int32 → Prop), Fr M M1 → (∀ M', Fr M M' → P199 M' (f h) 0) → ((rd M1 3 2) ≤ 0 → P199 M1 h 0) ∧ (¬ (rd M1 3 2) ≤ 0 → wp_X11_sound (fun r17 M18 => wp_X11_mix (fun r19 M20 => wp_X11_met (fun r21 M22 => wp_X11_mix (fun r23 M24 => wp_X11_met (fun r25 M26 => wp_X11_mix (fun r27 M28 => P199 M28 r27 0) M26 r23 r25) M24 0 1 2 1) M22 r19 r21) M20 0 1 2 0) M18 h r17) M1)) ∧ (∀ (M1 : Mem) (P76 : Mem → Int32 → Prop), Fr M M1 → (∀ M', Fr M M' → M'.2 = f M1.2 → P76 M' 0) → wp_X12_lacks (fun r4 M5 => (¬ r4 = 0 → P76 M5 0) ∧ (r4 = 0 → wp_X12_soundOf (fun r6 M7 => wp_X12_say (fun M9 => wp_X12_metOf (fun r10 M11 => wp_X12_say (fun M13 => wp_X12_metOf (fun r14 M15 => wp_X12_say (fun M17 => P76 M17 0) M15 (r14.toInt64)) M13 0 1 2 1) M11 (r10.toInt64)) M9 0 1 2 0) M7 (r6.toInt64)) M5)) M1) := by
  have hB := hC.2.2.2.2.1
  unfold BD at hB
  by_cases hc : c = 0
  · refine ⟨fun h => h, fun M1 h P199 f hP => ⟨fun _ => hP M1 f, fun z => absurd ?_ z⟩, fun M1 P76 f hP => sp_lacks (fun _ => ⟨fun _ => hP M1 f rfl, fun z => absurd z (by decide)⟩) (fun z => absurd ?_ z)⟩
    · rw [(f.both hI hC hM).1.2.2.1, hc]
      exact Int32.le_refl _
    · rw [(f.both hI hC hM).2.2.2.1, hc]
      rfl
  · obtain ⟨s, hs⟩ := ob_sound hI hC hM hT hc
    have hs : ORr _ _ M s := hs
    obtain ⟨m0, hm0⟩ := ob_met hI hC hM hT (p := 0) (q := 1) (m := 2) (by omega) (by omega) (by omega) (by omega) (by omega) (v := 0) (Or.inl rfl)
    have hm0 : ORr _ _ M m0 := hm0
    obtain ⟨m1, hm1⟩ := ob_met hI hC hM hT (p := 0) (q := 1) (m := 2) (by omega) (by omega) (by omega) (by omega) (by omega) (v := 1) (Or.inr rfl)
    have hm1 : ORr _ _ M m1 := hm1
    refine ⟨fun h => mxU (mxU (mxU h s) m0) m1, fun M1 h P199 f hP => ⟨fun z => absurd z ?_, fun _ => ?_⟩, fun M1 P76 f hP => sp_lacks (fun z => absurd z ?_) (fun _ => ⟨fun z => absurd rfl z, fun _ => ?_⟩)⟩
    · rw [(f.both hI hC hM).1.2.2.1]
      exact nI_nle (by omega) (by omega)
    · refine sayC (cls := fun P M => wp_X11_sound P M) hs f (fun M2 f2 => ?_)
      refine sayC (cls := fun P M => wp_X11_met P M (nI 0) (nI 1) (nI 2) 0) hm0 f2 (fun M3 f3 => ?_)
      exact sayC (cls := fun P M => wp_X11_met P M (nI 0) (nI 1) (nI 2) 1) hm1 f3 (fun M4 f4 => hP M4 f4)
    · rw [(f.both hI hC hM).2.2.2.1]
      exact nI_ne0 (by omega) (by omega)
    · refine sayM (mdl := fun P M => wp_X12_soundOf P M) hs f (fun M2 f2 x2 => ?_)
      refine sayM (mdl := fun P M => wp_X12_metOf P M (nI 0) (nI 1) (nI 2) 0) hm0 f2 (fun M3 f3 x3 => ?_)
      exact sayM (mdl := fun P M => wp_X12_metOf P M (nI 0) (nI 1) (nI 2) 1) hm1 f3 (fun M4 f4 x4 => hP M4 f4 (by rw [x4, x3, x2]))
theorem ob_digest {n : Nat} {M : Mem} (hI : Inv n M) : ∃ r : Int64, (∀ (M1 : Mem) (Post : Int64 → Mem → Prop), Fr M M1 → (∀ M', Fr M M' → Post r M') → wp_X11_digest Post M1) ∧ (∀ (M1 : Mem) (Post : Int64 → Mem → Prop), Fr M M1 → (∀ M', Fr M M' → Post r M') → wp_X12_digest Post M1) := by
  obtain ⟨a, b, c, d, hC, hM, hT⟩ := hI.both
  have hB := hC.2.2.2.2.1
  unfold BD at hB
  obtain ⟨l, l1, l2, l3, l4, l5⟩ : PG M := by
    obtain ⟨-, _, _, _, _, -, -, -, -, -, -, -, h, -⟩ := hI
    exact h
  obtain ⟨fp, hfp⟩ := sk_nat (fun h => h) (fun p (hp : p < c) => hb_person hI hC hM hT hp)
  obtain ⟨gd, hgd⟩ := sk_nat (fun _ => 0) (fun k (hk : k < b) => ob_all (c := 3) (fun w _ => ob_door hI hC hM hk (nI w)))
  obtain ⟨gk, hgk⟩ := sk_nat (fun _ => 0) (fun k (hk : k < d) => ob_all (c := 6) (fun w _ => ob_debt hI hC hM hT hk (nI w)))
  obtain ⟨gc, hgc⟩ := ob_all (c := a) (fun t ht => ob_cancel hI hC hM ht (v := 0) (Or.inl rfl))
  obtain ⟨ft, hft1, hft2⟩ := hb_tail hI hC hM hT
  obtain ⟨gn, hgn⟩ := ob_all (c := 13) (fun w _ => ob_count hI (nI w))
  refine ⟨itr (fun i h => mxU h (gn i)) (itr (fun i h => mxU h (rd M 30 i)) (ft (itr (fun i h => mxU h (gc i)) (itr (fun k h => itr (fun i h => mxU h (gk k i)) h 6) (itr (fun k h => itr (fun i h => mxU h (gd k i)) h 3) (itr fp 1223 c) b) d) a)) l) 13, fun M1 Post f hP => ?_, fun M1 Post f hP => ?_⟩
  · intro P6 P32 P46 P78 P92 P124 P199 P232 h6 h32 h46 h78 h92 h124 h199 h232 x1 e1
    subst e1
    refine loopC (P := P6) (M0 := M) (n := c) fp (fun i M2 h2 hi f2 ih => h6 _ _ _ ⟨fun z => absurd z ?_, fun _ => ?_⟩) (fun M2 f2 => h6 _ _ _ ⟨fun _ => ?_, fun z => absurd ?_ z⟩) f
    · rw [(f2.both hI hC hM).1.2.2.1]
      exact le_n (by omega) hi
    · refine (hfp i hi).1 M2 h2 _ f2 (fun M' f' x hx => ?_)
      rw [hx, nI_1]
      exact ih M' f'
    rotate_left
    · rw [(f2.both hI hC hM).1.2.2.1]
      exact Int32.le_refl _
    refine loopC (P := P32) (M0 := M) (n := b) (fun k h => itr (fun i h => mxU h (gd k i)) h 3) (fun k M3 h3 hk f3 ih => h32 _ _ _ ⟨fun z => absurd z ?_, fun _ => ?_⟩) (fun M3 f3 => h32 _ _ _ ⟨fun _ => ?_, fun z => absurd ?_ z⟩) f2
    · rw [(f3.both hI hC hM).1.2.1]
      exact le_n (by omega) hk
    · refine loopC (P := fun M v i => P46 M v (nI k) i) (M0 := M) (n := 3) (fun i h => mxU h (gd k i)) (fun i M4 h4 hi f4 ihi => h46 _ _ _ _ ⟨fun z => absurd z (nI_nlt (a := 2) (b := i) (by omega) (by omega)), fun _ => ?_⟩) (fun M4 f4 => h46 _ _ _ _ ⟨fun _ x hx => ?_, fun z => absurd (by decide) z⟩) f3
      · refine sayC (cls := fun P M => wp_X11_door P M (nI k) (nI i)) (hgd k hk i hi) f4 (fun M' f' x hx => ?_)
        rw [hx, nI_1]
        exact ihi M' f'
      · rw [hx, nI_1]
        exact ih M4 f4
    rotate_left
    · rw [(f3.both hI hC hM).1.2.1]
      exact Int32.le_refl _
    refine loopC (P := P78) (M0 := M) (n := d) (fun k h => itr (fun i h => mxU h (gk k i)) h 6) (fun k M4 h4 hk f4 ih => h78 _ _ _ ⟨fun z => absurd z ?_, fun _ => ?_⟩) (fun M4 f4 => h78 _ _ _ ⟨fun _ => ?_, fun z => absurd ?_ z⟩) f3
    · rw [(f4.both hI hC hM).1.2.2.2.1]
      exact le_n (by omega) hk
    · refine loopC (P := fun M v i => P92 M v (nI k) i) (M0 := M) (n := 6) (fun i h => mxU h (gk k i)) (fun i M5 h5 hi f5 ihi => h92 _ _ _ _ ⟨fun z => absurd z (nI_nlt (a := 5) (b := i) (by omega) (by omega)), fun _ => ?_⟩) (fun M5 f5 => h92 _ _ _ _ ⟨fun _ x hx => ?_, fun z => absurd (by decide) z⟩) f4
      · refine sayC (cls := fun P M => wp_X11_debt P M (nI k) (nI i)) (hgk k hk i hi) f5 (fun M' f' x hx => ?_)
        rw [hx, nI_1]
        exact ihi M' f'
      · rw [hx, nI_1]
        exact ih M5 f5
    rotate_left
    · rw [(f4.both hI hC hM).1.2.2.2.1]
      exact Int32.le_refl _
    refine loopC (P := P124) (M0 := M) (n := a) (fun i h => mxU h (gc i)) (fun i M5 h5 hi f5 ih => h124 _ _ _ ⟨fun z => absurd z ?_, fun _ => ?_⟩) (fun M5 f5 => h124 _ _ _ ⟨fun _ => ?_, fun z => absurd ?_ z⟩) f4
    · rw [(f5.both hI hC hM).1.1]
      exact le_n (by omega) hi
    · refine sayC (cls := fun P M => wp_X11_cancel P M (nI i) 0) (hgc i hi) f5 (fun M' f' x hx => ?_)
      rw [hx, nI_1]
      exact ih M' f'
    rotate_left
    · rw [(f5.both hI hC hM).1.1]
      exact Int32.le_refl _
    refine hft1 M5 _ P199 f5 (fun M6 f6 => ?_)
    refine loopC (P := P199) (M0 := M) (n := l) (fun i h => mxU h (rd M 30 i)) (fun i M7 h7 hi f7 ih => h199 _ _ _ ⟨fun z => absurd z ?_, fun _ => ⟨vp_in_nI (by omega) (by omega), fun x hx => ?_⟩⟩) (fun M7 f7 => h199 _ _ _ ⟨fun _ => ?_, fun z => absurd ?_ z⟩) f6
    · rw [f7.2.1, l2]
      exact le_n (by omega) hi
    · have e := ih M7 f7
      rw [hx, nI_1, cl4 (by omega), f7.1 2 (by unfold core; omega), l4]
      exact e
    rotate_left
    · rw [f7.2.1, l2]
      exact Int32.le_refl _
    refine loopC (P := P232) (M0 := M) (n := 13) (fun i h => mxU h (gn i)) (fun i M8 h8 hi f8 ih => h232 _ _ _ ⟨fun z => absurd z (nI_nlt (a := 12) (b := i) (by omega) (by omega)), fun _ => ?_⟩) (fun M8 f8 => h232 _ _ _ ⟨fun _ => hP M8 f8, fun z => absurd (by decide) z⟩) f7
    refine sayC (cls := fun P M => wp_X11_count P M (nI i)) (hgn i hi) f8 (fun M' f' x hx => ?_)
    rw [hx, nI_1]
    exact ih M' f'
  · intro P9 P76 P103 h9 h76 h103 M2 e2
    have f2 : Fr M M2 := by
      rw [e2]
      exact f.tr (Fr.wrH _ _)
    have x2 : M2.2 = 1223 := by
      rw [e2]
      rfl
    refine loopM (P := P9) (M0 := M) (n := c) fp (fun i M3 hi f3 ih => h9 _ _ ⟨fun z => absurd z ?_, fun _ => ?_⟩) (fun M3 f3 x3 => h9 _ _ ⟨fun _ => ?_, fun z => absurd ?_ z⟩) f2 x2
    · rw [(f3.both hI hC hM).2.2.2.1]
      exact le_n (by omega) hi
    · refine (hfp i hi).2 M3 _ f3 (fun M' f' x' x hx => ?_)
      rw [hx, nI_1]
      exact ih M' f' x'
    rotate_left
    · rw [(f3.both hI hC hM).2.2.2.1]
      exact Int32.le_refl _
    intro P2 P12 P42 P52 P83 h2 h12 h42 h52 h83
    refine loopM (P := P2) (M0 := M) (n := b) (fun k h => itr (fun i h => mxU h (gd k i)) h 3) (fun k M4 hk f4 ih => h2 _ _ ⟨fun z => absurd z ?_, fun _ => ?_⟩) (fun M4 f4 x4 => h2 _ _ ⟨fun _ => ?_, fun z => absurd ?_ z⟩) f3 x3
    · rw [(f4.both hI hC hM).2.2.1]
      exact le_n (by omega) hk
    · refine loopM (P := fun M i => P12 M (nI k) i) (M0 := M) (n := 3) (fun i h => mxU h (gd k i)) (fun i M5 hi f5 ihi => h12 _ _ _ ⟨fun z => absurd z (le_n (n := 3) (by omega) hi), fun _ => ?_⟩) (fun M5 f5 x5 => h12 _ _ _ ⟨fun _ x hx => ?_, fun z => absurd (by decide) z⟩) f4 rfl
      · refine sayM (mdl := fun P M => wp_X12_tellDoor P M (nI k) (nI i)) (hgd k hk i hi) f5 (fun M' f' x' x hx => ?_)
        rw [hx, nI_1]
        exact ihi M' f' x'
      · rw [hx, nI_1]
        exact ih M5 f5 x5
    rotate_left
    · rw [(f4.both hI hC hM).2.2.1]
      exact Int32.le_refl _
    refine loopM (P := P42) (M0 := M) (n := d) (fun k h => itr (fun i h => mxU h (gk k i)) h 6) (fun k M5 hk f5 ih => h42 _ _ ⟨fun z => absurd z ?_, fun _ => ?_⟩) (fun M5 f5 x5 => h42 _ _ ⟨fun _ => ?_, fun z => absurd ?_ z⟩) f4 x4
    · rw [(f5.both hI hC hM).2.2.2.2.1]
      exact le_n (by omega) hk
    · refine loopM (P := fun M i => P52 M (nI k) i) (M0 := M) (n := 6) (fun i h => mxU h (gk k i)) (fun i M6 hi f6 ihi => h52 _ _ _ ⟨fun z => absurd z (le_n (n := 6) (by omega) hi), fun _ => ?_⟩) (fun M6 f6 x6 => h52 _ _ _ ⟨fun _ x hx => ?_, fun z => absurd (by decide) z⟩) f5 rfl
      · refine sayM (mdl := fun P M => wp_X12_tellDebt P M (nI k) (nI i)) (hgk k hk i hi) f6 (fun M' f' x' x hx => ?_)
        rw [hx, nI_1]
        exact ihi M' f' x'
      · rw [hx, nI_1]
        exact ih M6 f6 x6
    rotate_left
    · rw [(f5.both hI hC hM).2.2.2.2.1]
      exact Int32.le_refl _
    refine loopM (P := P83) (M0 := M) (n := a) (fun i h => mxU h (gc i)) (fun i M6 hi f6 ih => h83 _ _ ⟨fun z => absurd z ?_, fun _ => ?_⟩) (fun M6 f6 x6 => h83 _ _ ⟨fun _ => ?_, fun z => absurd ?_ z⟩) f5 x5
    · rw [(f6.both hI hC hM).2.1]
      exact le_n (by omega) hi
    · refine sayM (mdl := fun P M => wp_X12_cancelOf P M (nI i) 0) (hgc i hi) f6 (fun M' f' x' x hx => ?_)
      rw [hx, nI_1]
      exact ih M' f' x'
    rotate_left
    · rw [(f6.both hI hC hM).2.1]
      exact Int32.le_refl _
    refine hft2 M6 P76 f6 (fun M7 f7 x7 => ?_)
    rw [x6] at x7
    refine loopM (P := P76) (M0 := M) (n := l) (fun i h => mxU h (rd M 30 i)) (fun i M8 hi f8 ih => h76 _ _ ⟨fun z => absurd z ?_, fun _ => ⟨vp_in_nI (by omega) (by omega), fun M9 e9 x hx => ?_⟩⟩) (fun M8 f8 x8 => h76 _ _ ⟨fun _ => ?_, fun z => absurd ?_ z⟩) f7 x7
    · rw [f8.2.2 1 (by unfold slots29; omega), l3]
      exact le_n (by omega) hi
    · rw [hx, nI_1]
      refine ih M9 (by rw [e9]; exact f8.tr (Fr.wrH _ _)) ?_
      rw [e9, cl4 (by omega), f8.1 30 (by unfold core; omega)]
      rfl
    rotate_left
    · rw [f8.2.2 1 (by unfold slots29; omega), l3]
      exact Int32.le_refl _
    refine loopM (P := P103) (M0 := M) (n := 13) (fun i h => mxU h (gn i)) (fun i M9 hi f9 ih => h103 _ _ ⟨fun z => absurd z (le_n (n := 13) (by omega) hi), fun _ => ?_⟩) (fun M9 f9 x9 => h103 _ _ ⟨fun _ => ?_, fun z => absurd (by decide) z⟩) f8 x8
    · refine sayM (mdl := fun P M => wp_X12_countOf P M (nI i)) (hgn i hi) f9 (fun M' f' x' x hx => ?_)
      rw [hx, nI_1]
      exact ih M' f' x'
    · rw [x9]
      exact hP M9 f9
theorem op_digest {n : Nat} {M : Mem} {K : Mem → Prop} (hI : Inv n M) (hK : ∀ M', Inv n M' → K M') : wp_X11_digest (fun r M1 => wp_X12_digest (fun r' M2 => (lg_cmp r r' = 0 → K M2) ∧ (¬ lg_cmp r r' = 0 → False)) M1) M := by
  obtain ⟨r, h1, h2⟩ := ob_digest hI
  exact h1 M _ (Fr.rf M) (fun M' f => h2 M' _ f (fun M'' f'' => ⟨fun _ => hK _ (f''.inv hI), fun z => absurd (cmp_self r) z⟩))
