theorem snd_le {A : Nat → Nat → Prop} {t a c c' : Nat} {inf : Int32} {f : Nat → Int32} (h : SND A t a inf f c) (hc : c ≤ c') : SND A t a inf f c' := fun r hr => by
  rcases h r hr with z | ⟨m, hm, z, zw⟩
  · exact Or.inl z
  · exact Or.inr ⟨m, by omega, z, zw⟩
theorem sp_shorten {Post : Mem → Prop} {M : Mem} {u w : Nat} (hu : u < 6) (hw : w < 6) (Su : rd M 16 u = -1 ∨ ∃ m, m < 97 ∧ rd M 16 u = nI m) (Sw : rd M 16 w = -1 ∨ ∃ m, m < 97 ∧ rd M 16 w = nI m) (h : ∀ M', FQ 16 M M' → IMP (-1) (rd M 16) (rd M' 16) u w → Post M') : wp_X10_shorten Post M (nI u) (nI w) := by
  have n1 := cl4 (p := u) (by omega)
  have n2 := cl4 (p := w) (by omega)
  have vu : vp_in (nI u) 6 := vp_in_nI hu (by omega)
  have vw : vp_in (nI w) 6 := vp_in_nI hw (by omega)
  unfold wp_X10_shorten wp_X10_shorten_b37
  rw [n1, n2]
  have same : (rd M 16 u = -1 ∨ rd M 16 u = nI 98 ∨ ∃ m k, m < 99 ∧ k < 99 ∧ rd M 16 u = nI m ∧ rd M 16 w = nI k ∧ k ≤ m + 1) → Post M := fun z => h M (FQ.rf _ _) ⟨fun _ _ => rfl, Or.inl ⟨rfl, z⟩⟩
  have new : ∀ m, m < 97 → rd M 16 u = nI m → (rd M 16 w = -1 ∨ ∃ k, k < 99 ∧ rd M 16 w = nI k ∧ m + 1 < k) → Post (wr M 16 w (rd M 16 u + 1)) := fun m hm e z => h _ FQ.wr ⟨fun r hr => wr_k _ hr, Or.inr ⟨m, by omega, e, by rw [wr_s, e, nI_1], z⟩⟩
  refine ⟨vu, fun z => same (Or.inl z), fun z => ⟨vw, fun y => ⟨vu, vw, ?_⟩, fun y => ⟨vw, vu, fun q => ?_, fun q => ⟨vu, vw, ?_⟩⟩⟩⟩
  · rintro M1 rfl
    rcases Su with e | ⟨m, hm, e⟩
    · exact absurd e z
    · exact new m hm e (Or.inl y)
  · rcases Su with e | ⟨m, hm, e⟩
    · exact absurd e z
    · rcases Sw with e2 | ⟨k, hk, e2⟩
      · exact absurd e2 y
      · rw [e, e2, nI_1, nI_leI (by omega) (by omega)] at q
        exact same (Or.inr (Or.inr ⟨m, k, by omega, by omega, e, e2, q⟩))
  · rintro M1 rfl
    rcases Su with e | ⟨m, hm, e⟩
    · exact absurd e z
    · rcases Sw with e2 | ⟨k, hk, e2⟩
      · exact absurd e2 y
      · rw [e, e2, nI_1, nI_leI (by omega) (by omega)] at q
        exact new m hm e (Or.inr ⟨k, by omega, e2, by omega⟩)
theorem sp_measure {Post : Mem → Prop} {M : Mem} {o a b c d p t : Nat} (hC : CO M o a b c d) (ho : 59 ≤ o) (hp : p < 4) (ht : t < a) (h : ∀ M', FQ 16 M M' → (∀ r, r < a → MN (adjH (stC M o) a b p) t r (rd M' 16 r) (-1)) → Post M') : wp_X10_measure Post M o (nI p) (nI t) := by
  intro P3 P34 P49 h3 h34 h49
  have hB := hC.2.2.2.2.1
  unfold BD at hB
  obtain ⟨A, hAd⟩ : ∃ A, A = adjH (stC M o) a b p := ⟨_, rfl⟩
  have hA : ∀ r s, A r s → r < a ∧ s < a := by rw [hAd]; exact adj_lt
  rw [← hAd] at h
  have rounds : ∀ s, FQ 16 M s → SND A t a (-1) (rd s 16) 0 → CMP A t (rd s 16) 0 → P34 s 1 := by
    intro s0 f0 S0 C0
    refine for_up (S := Mem) (P := fun s i => P34 s i) (n := a) (fun i s => 1 ≤ i ∧ FQ 16 M s ∧ SND A t a (-1) (rd s 16) (12 * (i - 1)) ∧ CMP A t (rd s 16) (i - 1)) (fun s hs => ?_) (fun i s hi hs ih => ?_) 1 (by omega) s0 ⟨Nat.le_refl _, f0, S0, C0⟩
    · obtain ⟨-, f, Sd, Cm⟩ := hs
      have hC' := f.co (by omega) (by omega) hC
      exact h34 _ _ ⟨fun _ => h s f (mn_of hA ht (by omega) (Nat.le_refl _) (by omega) inf_m1 Sd Cm), fun z => absurd (by rw [hC'.1]; exact Int32.le_refl _) z⟩
    · obtain ⟨i1, f, Sd, Cm⟩ := hs
      have hC' := f.co (by omega) (by omega) hC
      refine h34 _ _ ⟨fun z => absurd z (by rw [hC'.1]; exact le_n (by omega) hi), fun _ => ?_⟩
      refine for_up (S := Mem) (P := fun u k => P49 u (nI i) k) (n := b) (fun k u => FQ 16 M u ∧ SND A t a (-1) (rd u 16) (12 * (i - 1) + 2 * k) ∧ CMP A t (rd u 16) (i - 1) ∧ ∀ k', k' < k → pasB (stC M o) p k' = true → ∀ r q, (stC M o 0 k' = nI r ∧ stC M o 1 k' = nI q ∨ stC M o 0 k' = nI q ∧ stC M o 1 k' = nI r) → r < a → q < a → wk A t (i - 1) q → VL (rd u 16 r) i) (fun u hu => ?_) (fun k u hk hu ih2 => ?_) 0 (Nat.zero_le _) s ⟨f, Sd, Cm, fun k' hk' => absurd hk' (Nat.not_lt_zero _)⟩
      · obtain ⟨fu, Su, Cu, Ku⟩ := hu
        have hCu := fu.co (by omega) (by omega) hC
        refine h49 _ _ _ ⟨fun _ x4 hx4 => ?_, fun z => absurd (by rw [hCu.2.1]; exact Int32.le_refl _) z⟩
        rw [hx4, nI_1]
        refine ih u ⟨by omega, fu, snd_le Su (by omega), fun r n hn hw => ?_⟩
        by_cases hn1 : n ≤ i - 1
        · exact Cu r n hn1 hw
        · have e : n = i - 1 + 1 := by omega
          subst e
          obtain ⟨q, hAq, hwq⟩ := hw
          rw [hAd] at hAq
          obtain ⟨hr, hq, k', hk', pk, jn⟩ := hAq
          have := Ku k' hk' pk r q jn hr hq (by rw [hAd] at hwq ⊢; exact hwq)
          rw [show i - 1 + 1 = i by omega]
          exact this
      · obtain ⟨fu, Su, Cu, Ku⟩ := hu
        have hCu := fu.co (by omega) (by omega) hC
        have hH := fu.stC (o := o) (by omega) (by omega)
        refine h49 _ _ _ ⟨fun z => absurd z (by rw [hCu.2.1]; exact le_n (by omega) hk), fun _ => ?_⟩
        rw [eqc_pass hCu hp hk, hH]
        by_cases pk : pasB (stC M o) p k = true
        · rw [if_pos pk]
          refine ⟨fun z => absurd z (by decide), fun _ => ?_⟩
          obtain ⟨x, y, hx, hy, hxy, e0, e1, -⟩ := hC.2.2.2.2.2.1 k hk
          have n1 := cl4 (p := k) (by omega)
          have v6 : vp_in (nI k) 6 := vp_in_nI (by omega) (by omega)
          have r4 : ∀ N, FQ 16 M N → rd N 4 k = nI x := fun N fN => by rw [fN.1 4 (by omega)]; exact e0
          have r5 : ∀ N, FQ 16 M N → rd N 5 k = nI y := fun N fN => by rw [fN.1 5 (by omega)]; exact e1
          have vals : ∀ {N : Mem} {cc : Nat}, cc < 97 → SND A t a (-1) (rd N 16) cc → ∀ r, r < a → rd N 16 r = -1 ∨ ∃ m, m < 97 ∧ rd N 16 r = nI m := fun hcc S r hr => by
            rcases S r hr with z | ⟨m, hm, z, -⟩
            · exact Or.inl z
            · exact Or.inr ⟨m, by omega, z⟩
          have Axy : A x y := by rw [hAd]; exact ⟨hx, hy, k, hk, pk, Or.inl ⟨e0, e1⟩⟩
          have Ayx : A y x := by rw [hAd]; exact ⟨hy, hx, k, hk, pk, Or.inr ⟨e0, e1⟩⟩
          rw [n1, r4 u fu, r5 u fu]
          refine ⟨v6, v6, sp_shorten (by omega) (by omega) (vals (by omega) Su x hx) (vals (by omega) Su y hy) (fun N9 f9 i9 => ?_)⟩
          have F9 := fu.tr f9
          have S9 : SND A t a (-1) (rd N9 16) (12 * (i - 1) + 2 * k + 1) := imp_snd i9 hx Ayx inf_m1 (by omega) Su (by omega) (by omega)
          rw [r4 N9 F9, r5 N9 F9]
          refine ⟨v6, v6, sp_shorten (by omega) (by omega) (vals (by omega) S9 y hy) (vals (by omega) S9 x hx) (fun N11 f11 i11 => ?_)⟩
          have F11 := F9.tr f11
          have S11 : SND A t a (-1) (rd N11 16) (12 * (i - 1) + 2 * (k + 1)) := imp_snd i11 hy Axy inf_m1 (by omega) S9 (by omega) (by omega)
          have mono : ∀ r n, n ≤ 10 → VL (rd u 16 r) n → VL (rd N11 16 r) n := fun r n hn z => imp_mono i11 inf_m1 hn (imp_mono i9 inf_m1 hn z)
          intro x5 hx5
          rw [hx5, nI_1]
          refine ih2 N11 ⟨F11, S11, fun r n hn hw => mono r n (by omega) (Cu r n hn hw), fun k' hk' pk' r q jn hr hq hw => ?_⟩
          by_cases ek : k' < k
          · exact mono r i (by omega) (Ku k' ek pk' r q jn hr hq hw)
          · have ek : k' = k := by omega
            subst ek
            have eI : i - 1 + 1 = i := by omega
            rw [e0, e1] at jn
            rcases jn with ⟨j1, j2⟩ | ⟨j1, j2⟩
            · have z1 : x = r := (nI_eq (by omega) (by omega)).mp j1
              have z2 : y = q := (nI_eq (by omega) (by omega)).mp j2
              subst z1 z2
              have := imp_cmp i11 inf_m1 (by omega) (imp_mono i9 inf_m1 (by omega) (Cu y (i - 1) (Nat.le_refl _) hw))
              rw [eI] at this
              exact this
            · have z1 : x = q := (nI_eq (by omega) (by omega)).mp j1
              have z2 : y = r := (nI_eq (by omega) (by omega)).mp j2
              subst z1 z2
              have := imp_mono i11 inf_m1 (n := i - 1 + 1) (by omega) (imp_cmp i9 inf_m1 (by omega) (Cu x (i - 1) (Nat.le_refl _) hw))
              rw [eI] at this
              exact this
        · rw [if_neg pk]
          refine ⟨fun _ x5 hx5 => ?_, fun z => absurd rfl z⟩
          rw [hx5, nI_1]
          refine ih2 u ⟨fu, snd_le Su (by omega), Cu, fun k' hk' pk' r q jn hr hq hw => ?_⟩
          by_cases ek : k' < k
          · exact Ku k' ek pk' r q jn hr hq hw
          · have ek : k' = k := by omega
            subst ek
            exact absurd pk' pk
  refine for_up (S := Mem) (P := fun s i => P3 s i) (n := 6) (fun i s => FQ 16 M s ∧ ∀ r, r < i → rd s 16 r = -1) (fun s hs => ?_) (fun i s hi hs ih => ?_) 0 (Nat.zero_le _) M ⟨FQ.rf _ _, fun r hr => absurd hr (Nat.not_lt_zero _)⟩
  · have n1 := cl4 (p := t) (by omega)
    refine h3 _ _ ⟨fun _ => ⟨vp_in_nI (by omega) (by omega), ?_⟩, fun z => absurd (Int32.le_refl _) z⟩
    rintro M1 rfl
    rw [n1]
    refine rounds _ (hs.1.tr FQ.wr) (fun r hr => ?_) (fun r n hn hw => ?_)
    · rw [wr_q]
      by_cases e : r = t
      · rw [if_pos e]
        exact Or.inr ⟨0, by omega, rfl, e⟩
      · rw [if_neg e]
        exact Or.inl (hs.2 r (by omega))
    · have e : n = 0 := by omega
      subst e
      have hw : r = t := hw
      rw [wr_q, if_pos hw]
      exact ⟨0, by omega, rfl⟩
  · have n1 := cl4 (p := i) (by omega)
    refine h3 _ _ ⟨fun z => absurd z (le_n (n := 6) (by omega) hi), fun _ => ⟨vp_in_nI (by omega) (by omega), ?_⟩⟩
    rintro M1 rfl x4 rfl
    rw [n1, nI_1]
    refine ih _ ⟨hs.1.tr FQ.wr, fun r hr => ?_⟩
    rw [wr_q]
    by_cases e : r = i
    · rw [if_pos e]
    · rw [if_neg e]; exact hs.2 r (by omega)
theorem join_go {H : Nat → Nat → Int32} {a b c d p k r : Nat} (hB : BD a b c d) (hH : HOK H a b c d) (hk : k < b) (hr : r < a) : (goB H p k (nI r) = true → pasB H p k = true ∧ ∃ y, y < a ∧ byH H k (nI r) = nI y ∧ (H 0 k = nI r ∧ H 1 k = nI y ∨ H 0 k = nI y ∧ H 1 k = nI r)) ∧ ∀ q, q < a → pasB H p k = true → (H 0 k = nI r ∧ H 1 k = nI q ∨ H 0 k = nI q ∧ H 1 k = nI r) → goB H p k (nI r) = true ∧ byH H k (nI r) = nI q := by
  obtain ⟨x, y, hx, hy, hxy, e0, e1, -⟩ := hH.1 k hk
  unfold BD at hB
  refine ⟨fun g => ?_, fun q hq pk jn => ?_⟩
  · unfold goB at g
    rw [Bool.and_eq_true] at g
    refine ⟨g.2, ?_⟩
    have g1 : H 0 k = nI r ∨ H 1 k = nI r := decide_eq_true_iff.mp g.1
    unfold byH byd
    by_cases z : H 0 k = nI r
    · rw [if_pos z]
      exact ⟨y, hy, e1, Or.inl ⟨z, e1⟩⟩
    · rw [if_neg z]
      rcases g1 with g1 | g1
      · exact absurd g1 z
      · exact ⟨x, hx, e0, Or.inr ⟨e0, g1⟩⟩
  · unfold goB byH byd
    rw [Bool.and_eq_true]
    rcases jn with ⟨j1, j2⟩ | ⟨j1, j2⟩
    · exact ⟨⟨decide_eq_true_iff.mpr (Or.inl j1), pk⟩, by rw [if_pos j1, j2]⟩
    · refine ⟨⟨decide_eq_true_iff.mpr (Or.inr j2), pk⟩, ?_⟩
      rw [if_neg, j1]
      intro z
      have z1 := (nI_eq (by omega) (by omega)).mp (e0.symm.trans z)
      have z2 := (nI_eq (by omega) (by omega)).mp (e1.symm.trans j2)
      omega
