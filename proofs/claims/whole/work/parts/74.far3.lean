theorem sp_layFar {Post : Mem → Prop} {M : Mem} {a b c d p t : Nat} (hC : MO M a b c d) (hp : p < 4) (ht : t < a) (h : ∀ M', FQ 46 M M' → (∀ r, r < a → MN (adjH (stM M) a b p) t r (rd M' 46 r) 99) → Post M') : wp_X12_layFar Post M (nI p) (nI t) := by
  intro P2 P33 P44 P56 h2 h33 h44 h56
  have hB := hC.2.2.2.2.1
  have hB2 := hB
  unfold BD at hB
  obtain ⟨A, hAd⟩ : ∃ A, A = adjH (stM M) a b p := ⟨_, rfl⟩
  have hA : ∀ r s, A r s → r < a ∧ s < a := by rw [hAd]; exact adj_lt
  rw [← hAd] at h
  have rounds : ∀ s, FQ 46 M s → SND A t a 99 (rd s 46) 98 → CMP A t (rd s 46) 0 → P33 s 0 := by
    intro s0 f0 S0 C0
    refine for_up (S := Mem) (P := fun s i => P33 s i) (n := a) (fun i s => FQ 46 M s ∧ SND A t a 99 (rd s 46) 98 ∧ CMP A t (rd s 46) i) (fun s hs => ?_) (fun i s hi hs ih => ?_) 0 (Nat.zero_le _) s0 ⟨f0, S0, C0⟩
    · obtain ⟨f, Sd, Cm⟩ := hs
      have hC' := f.mo (by omega) hC
      exact h33 _ _ ⟨fun _ => h s f (mn_of hA ht (by omega) (by omega) (by omega) inf_99 Sd Cm), fun z => absurd (by rw [hC'.1]; exact Int32.le_refl _) z⟩
    · obtain ⟨f, Sd, Cm⟩ := hs
      have hC' := f.mo (by omega) hC
      refine h33 _ _ ⟨fun z => absurd z (by rw [hC'.1]; exact le_n (by omega) hi), fun _ => ?_⟩
      refine for_up (S := Mem) (P := fun u r => P44 u (nI i) r) (n := a) (fun r u => FQ 46 M u ∧ SND A t a 99 (rd u 46) 98 ∧ CMP A t (rd u 46) i ∧ ∀ r', r' < r → ∀ q, A r' q → wk A t i q → VL (rd u 46 r') (i + 1)) (fun u hu => ?_) (fun r u hr hu ih2 => ?_) 0 (Nat.zero_le _) s ⟨f, Sd, Cm, fun k' hk' => absurd hk' (Nat.not_lt_zero _)⟩
      · obtain ⟨fu, Su, Cu, Ku⟩ := hu
        have hCu := fu.mo (by omega) hC
        refine h44 _ _ _ ⟨fun _ x3 hx3 => ?_, fun z => absurd (by rw [hCu.1]; exact Int32.le_refl _) z⟩
        rw [hx3, nI_1]
        refine ih u ⟨fu, Su, fun r n hn hw => ?_⟩
        by_cases hn1 : n ≤ i
        · exact Cu r n hn1 hw
        · have e : n = i + 1 := by omega
          subst e
          obtain ⟨q, hAq, hwq⟩ := hw
          exact Ku r (hA r q hAq).1 q hAq hwq
      · obtain ⟨fu, Su, Cu, Ku⟩ := hu
        have hCu := fu.mo (by omega) hC
        refine h44 _ _ _ ⟨fun z => absurd z (by rw [hCu.1]; exact le_n (by omega) hr), fun _ => ?_⟩
        refine for_up (S := Mem) (P := fun w k => P56 w (nI i) (nI r) k) (n := b) (fun k w => FQ 46 M w ∧ SND A t a 99 (rd w 46) 98 ∧ CMP A t (rd w 46) i ∧ (∀ r', r' < r → ∀ q, A r' q → wk A t i q → VL (rd w 46 r') (i + 1)) ∧ ∀ k', k' < k → pasB (stM M) p k' = true → ∀ q, (stM M 0 k' = nI r ∧ stM M 1 k' = nI q ∨ stM M 0 k' = nI q ∧ stM M 1 k' = nI r) → q < a → wk A t i q → VL (rd w 46 r) (i + 1)) (fun w hw => ?_) (fun k w hk hw ih3 => ?_) 0 (Nat.zero_le _) u ⟨fu, Su, Cu, Ku, fun k' hk' => absurd hk' (Nat.not_lt_zero _)⟩
        · obtain ⟨fw, Sw, Cw, Kw, Dw⟩ := hw
          have hCw := fw.mo (by omega) hC
          refine h56 _ _ _ _ ⟨fun _ x4 hx4 => ?_, fun z => absurd (by rw [hCw.2.1]; exact Int32.le_refl _) z⟩
          rw [hx4, nI_1]
          refine ih2 w ⟨fw, Sw, Cw, fun r' hr' q hAq hwq => ?_⟩
          by_cases er : r' < r
          · exact Kw r' er q hAq hwq
          · have er : r' = r := by omega
            subst er
            have hAq2 := hAq
            rw [hAd] at hAq2
            obtain ⟨h1, h2, k', hk', pk, jn⟩ := hAq2
            exact Dw k' hk' pk q jn h2 hwq
        · obtain ⟨fw, Sw, Cw, Kw, Dw⟩ := hw
          have hCw := fw.mo (by omega) hC
          have hH := fw.stM (by omega)
          have n1 := cl4 (p := r) (by omega)
          have v6 : vp_in (nI r) 6 := vp_in_nI (by omega) (by omega)
          obtain ⟨J1, J2⟩ := join_go (p := p) hB2 hC.2.2.2.2.2 hk hr
          have same : (∀ q, q < a → wk A t i q → pasB (stM M) p k = true → (stM M 0 k = nI r ∧ stM M 1 k = nI q ∨ stM M 0 k = nI q ∧ stM M 1 k = nI r) → VL (rd w 46 r) (i + 1)) → wp_X12_layFar_b119 Post (nI p) (nI t) P2 P33 P44 P56 w (nI i) (nI r) (nI k) (nI r) := by
            intro ex
            unfold wp_X12_layFar_b119
            rw [n1]
            refine ⟨v6, v6, ?_⟩
            rintro M11 rfl x5 rfl
            rw [nI_1]
            have e : rd (wr w 46 r (rd w 46 r)) 46 = rd w 46 := funext fun j => by
              rw [wr_q]
              by_cases z : j = r
              · rw [if_pos z, z]
              · rw [if_neg z]
            refine ih3 _ ⟨fw.tr FQ.wr, ?_⟩
            rw [e]
            refine ⟨Sw, Cw, Kw, fun k' hk' pk q jn hq hwq => ?_⟩
            by_cases ek : k' < k
            · exact Dw k' ek pk q jn hq hwq
            · have ek : k' = k := by omega
              subst ek
              exact ex q hq hwq pk jn
          refine h56 _ _ _ _ ⟨fun z => absurd z (by rw [hCw.2.1]; exact le_n (by omega) hk), fun _ => ?_⟩
          rw [eqm_thr hCw hp hk, hH]
          by_cases g : goB (stM M) p k (nI r) = true
          · obtain ⟨pk, y, hy, ey, jy⟩ := J1 g
            have en : nxt (stM M) p k (nI r) = nI y := by unfold nxt; rw [if_pos g, ey]
            have n2 := cl4 (p := y) (by omega)
            have vy : vp_in (nI y) 6 := vp_in_nI (by omega) (by omega)
            have Ary : A r y := by rw [hAd]; exact ⟨hr, hy, k, hk, pk, jy⟩
            rw [en, n2, n1]
            refine ⟨fun z => absurd z (nI_nm1 (by omega)), fun _ => ⟨vy, v6, fun z => same (fun q hq hwq _ jn => ?_), fun z => ⟨vy, v6, ?_⟩⟩⟩
            · have eq1 : q = y := by
                have := (J2 q hq pk jn).2
                exact (nI_eq (by omega) (by omega)).mp (this.symm.trans ey)
              subst eq1
              obtain ⟨m, hm, em⟩ := Cw q i (Nat.le_refl _) hwq
              rcases Sw r hr with e | ⟨k2, hk2, e, -⟩
              · rw [e, em, nI_1] at z
                have := (nI_leI (a := 99) (b := m + 1) (by omega) (by omega)).mp z
                omega
              · rw [e, em, nI_1, nI_leI (by omega) (by omega)] at z
                exact ⟨k2, by omega, e⟩
            · have hi9 : IMP 99 (rd w 46) (rd (wr w 46 r (rd w 46 y + 1)) 46) y r := by
                refine ⟨fun q hq => wr_k _ hq, Or.inr ?_⟩
                rcases Sw y hy with e | ⟨m, hm, e, -⟩
                · rcases Sw r hr with e2 | ⟨k2, hk2, e2, -⟩
                  · rw [e, e2] at z; exact absurd (by decide) z
                  · rw [e, e2] at z
                    exact absurd ((nI_leI (a := k2) (b := 100) (by omega) (by omega)).mpr (by omega)) z
                · rcases Sw r hr with e2 | ⟨k2, hk2, e2, -⟩
                  · rw [e, e2, nI_1] at z
                    have : ¬ 99 ≤ m + 1 := fun q => z ((nI_leI (a := 99) (b := m + 1) (by omega) (by omega)).mpr q)
                    exact ⟨m, by omega, e, by rw [wr_s, e, nI_1], Or.inl e2⟩
                  · rw [e, e2, nI_1, nI_leI (by omega) (by omega)] at z
                    exact ⟨m, by omega, e, by rw [wr_s, e, nI_1], Or.inr ⟨k2, by omega, e2, by omega⟩⟩
              rintro M9 rfl x5 rfl
              rw [nI_1]
              refine ih3 _ ⟨fw.tr FQ.wr, imp_snd hi9 hy Ary inf_99 (by omega) Sw (Nat.le_refl _) (Or.inr rfl), fun q n hn hwq => imp_mono hi9 inf_99 (by omega) (Cw q n hn hwq), fun r' hr' q hAq hwq => imp_mono hi9 inf_99 (by omega) (Kw r' hr' q hAq hwq), fun k' hk' pk' q jn hq hwq => ?_⟩
              by_cases ek : k' < k
              · exact imp_mono hi9 inf_99 (by omega) (Dw k' ek pk' q jn hq hwq)
              · have ek : k' = k := by omega
                subst ek
                have eq1 : q = y := by
                  have := (J2 q hq pk jn).2
                  exact (nI_eq (by omega) (by omega)).mp (this.symm.trans ey)
                subst eq1
                exact imp_cmp hi9 inf_99 (by omega) (Cw q i (Nat.le_refl _) hwq)
          · have en : nxt (stM M) p k (nI r) = -1 := by unfold nxt; rw [if_neg g]
            rw [en]
            exact ⟨fun _ => same (fun q hq hwq pk jn => absurd (J2 q hq pk jn).1 g), fun z => absurd rfl z⟩
  refine for_up (S := Mem) (P := fun s i => P2 s i) (n := 6) (fun i s => FQ 46 M s ∧ ∀ r, r < i → rd s 46 r = if r = t then 0 else 99) (fun s hs => ?_) (fun i s hi hs ih => ?_) 0 (Nat.zero_le _) M ⟨FQ.rf _ _, fun r hr => absurd hr (Nat.not_lt_zero _)⟩
  · refine h2 _ _ ⟨fun _ => ?_, fun z => absurd (Int32.le_refl _) z⟩
    refine rounds _ hs.1 (fun r hr => ?_) (fun r n hn hw => ?_)
    · rw [hs.2 r (by omega)]
      by_cases e : r = t
      · rw [if_pos e]
        exact Or.inr ⟨0, by omega, rfl, e⟩
      · rw [if_neg e]
        exact Or.inl rfl
    · have e : n = 0 := by omega
      subst e
      have hw : r = t := hw
      rw [hs.2 r (by omega), if_pos hw]
      exact ⟨0, by omega, rfl⟩
  · have n1 := cl4 (p := i) (by omega)
    have v6 : vp_in (nI i) 6 := vp_in_nI hi (by omega)
    refine h2 _ _ ⟨fun z => absurd z (le_n (n := 6) (by omega) hi), fun _ => ?_⟩
    rw [n1, nI_eq (by omega) (by omega)]
    refine ⟨fun z => ⟨v6, ?_⟩, fun z => ⟨v6, ?_⟩⟩
    · rintro M1 rfl x4 rfl
      rw [nI_1]
      refine ih _ ⟨hs.1.tr FQ.wr, fun r hr => ?_⟩
      rw [wr_q]
      by_cases e : r = i
      · rw [if_pos e, if_neg (by omega)]
      · rw [if_neg e]; exact hs.2 r (by omega)
    · rintro M1 rfl x4 rfl
      rw [nI_1]
      refine ih _ ⟨hs.1.tr FQ.wr, fun r hr => ?_⟩
      rw [wr_q]
      by_cases e : r = i
      · rw [if_pos e, if_pos (by omega)]
      · rw [if_neg e]; exact hs.2 r (by omega)
