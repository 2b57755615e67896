/-! ===== rings of debts: the class ===== -/
def StR (io : Nat → Bool) (M : Mem) (S : LST) : Prop := rd M 23 6 = S.1 ∧ (¬ S.1 = -1 → ∀ j, j < 4 → rd M 26 j = if io j = true then nI (S.2 j) else -1)
theorem StR.of {io : Nat → Bool} {M M' : Mem} {S : LST} (h : StR io M S) (h1 : rd M' 23 6 = rd M 23 6) (h2 : ∀ j, rd M' 26 j = rd M 26 j) : StR io M' S := ⟨h1.trans h.1, fun z j hj => (h2 j).trans (h.2 z j hj)⟩
theorem sp_keepR {Post : Mem → Prop} {M : Mem} {io : Nat → Bool} {l : Nat → Nat} {v : Int32} {S : LST} (st : StR io M S) (h25 : ∀ j, j < 4 → rd M 25 j = if io j = true then nI (l j) else -1) (h : ∀ M', (∀ q, q ≠ 23 → q ≠ 26 → ∀ j, rd M' q j = rd M q j) → M'.2 = M.2 → StR io M' (kpL v l S) → Post M') : wp_X9_keepIfMore Post M v := by
  intro P15 h15
  rw [st.1]
  unfold kpL at h
  refine ⟨fun z => ?_, fun z => ?_⟩
  · rw [if_pos z] at h
    exact h M (fun _ _ _ _ => rfl) rfl st
  · rw [if_neg z] at h
    rintro M1 rfl
    refine for_up (S := Mem) (P := P15) (n := 4) (fun i s => (∀ q, q ≠ 23 → q ≠ 26 → ∀ j, rd s q j = rd M q j) ∧ s.2 = M.2 ∧ rd s 23 6 = v ∧ ∀ j, j < i → rd s 26 j = rd M 25 j) (fun s hs => ?_) (fun i s hi hs ih => ?_) 0 (Nat.zero_le _) _ ⟨fun q h1 h2 j => by rw [wr_n h1], rfl, wr_s _ _ _ _, fun j hj => absurd hj (Nat.not_lt_zero _)⟩
    · obtain ⟨s1, s2, s3, s4⟩ := hs
      refine h15 _ _ ⟨fun _ => h s s1 s2 ⟨s3, fun _ j hj => ?_⟩, fun y => absurd (Int32.le_refl _) y⟩
      rw [s4 j hj]; exact h25 j hj
    · obtain ⟨s1, s2, s3, s4⟩ := hs
      have n1 := cl4 (p := i) (by omega)
      have v4 : vp_in (nI i) 4 := vp_in_nI hi (by omega)
      refine h15 _ _ ⟨fun y => absurd y (le_n (n := 4) (by omega) hi), fun _ => ⟨v4, v4, ?_⟩⟩
      rintro M2 rfl x2 rfl
      rw [nI_1, n1]
      refine ih _ ⟨fun q h1 h2 j => by rw [wr_n h2]; exact s1 q h1 h2 j, s2, by rw [wr_n (by omega)]; exact s3, fun j hj => ?_⟩
      rw [wr_q]
      by_cases e : j = i
      · rw [if_pos e, e, s1 25 (by omega) (by omega)]
      · rw [if_neg e]; exact s4 j (by omega)
def FE (io : Nat → Bool) (k : Nat) (M M' : Mem) : Prop := (∀ q, q ≠ 23 → q ≠ 25 → q ≠ 26 → q ≠ 28 → ∀ j, rd M' q j = rd M q j) ∧ (∀ j, j < 4 → j < k ∨ ¬ io j = true → rd M' 25 j = rd M 25 j) ∧ (∀ p, p < 4 → rd M' 28 p = rd M 28 p) ∧ M'.2 = M.2
theorem FE.rf (io : Nat → Bool) (k : Nat) (M : Mem) : FE io k M M := ⟨fun _ _ _ _ _ _ => rfl, fun _ _ _ => rfl, fun _ _ => rfl, rfl⟩
theorem FE.up {io : Nat → Bool} {k : Nat} {M M' : Mem} (f : FE io (k + 1) M M') : FE io k M M' := ⟨f.1, fun j hj h => f.2.1 j hj (by rcases h with h | h; exact Or.inl (by omega); exact Or.inr h), f.2.2.1, f.2.2.2⟩
def RS (w h : Nat → Nat) (io : Nat → Bool) (tp : Nat → Nat) (M : Mem) : Prop := (∀ j, j < 4 → rd M 24 j = if io j = true then nI (tp j) else -1) ∧ (∀ p, p < 4 → rd M 27 p = lsT w h io 4 p) ∧ (∀ j, j < 4 → io j = true → rd M 8 j = nI (w j) ∧ rd M 9 j = nI (h j)) ∧ ∀ j, j < 4 → ¬ io j = true → rd M 25 j = -1
theorem sm_ups {l : Nat → Nat} {k v : Nat} : smN (ups l k v) (k + 1) = smN l k + v := by
  rw [smN, ups_s, sm_cg (fun j hj => ups_n (by omega))]
theorem sp_lessen {w h : Nat → Nat} {io : Nat → Bool} {tp : Nat → Nat} (hio : ∀ k, k < 4 → io k = true → w k < 4 ∧ h k < 4 ∧ w k ≠ h k) (t9 : ∀ k, tp k ≤ 9) : ∀ n k, k + n = 4 → ∀ fu, n < fu → ∀ (Post : Mem → Prop) (M : Mem) (l : Nat → Nat) (acc : Int32) (S : LST), RS w h io tp M → (∀ j, j < k → io j = true → rd M 25 j = nI (l j)) → (∀ j, j < k → l j ≤ 9) → (∀ p, p < 4 → rd M 28 p = iI (unL w h io l k p)) → acc = nI (smN l k) → StR io M S → (∀ M', FE io k M M' → StR io M' (clF w h io tp n l S) → Post M') → wp_X9_lessen fu Post M (nI k) acc := by
  intro n
  induction n with
  | zero =>
    intro k hk fu hfu Post M l acc S rs p25 l9 p28 ea st hP
    cases fu with
    | zero => omega
    | succ fu =>
      intro P143 h143
      have k4 : k = 4 := by omega
      subst k4
      refine ⟨fun z => absurd z (nI_nlt (a := 4) (b := 4) (by omega) (by omega)), fun _ => ?_⟩
      refine sp_keepR (l := l) (S := S) st (fun j hj => ?_) (fun M' f x st' => hP M' ⟨fun q q1 q2 q3 q4 j => f q q1 q3 j, fun j hj _ => f 25 (by omega) (by omega) j, fun p hp => f 28 (by omega) (by omega) p, x⟩ ?_)
      · by_cases e : io j = true
        · rw [if_pos e]; exact p25 j hj e
        · rw [if_neg e]; exact rs.2.2.2 j hj e
      · rw [clF, ← ea]; exact st'
  | succ n ih =>
    intro k hk fu hfu Post M l acc S rs p25 l9 p28 ea st hP
    cases fu with
    | zero => omega
    | succ fu =>
      intro P143 h143
      have e3 : 3 - n = k := by omega
      rw [clF, e3] at hP
      have n1 := cl4 (p := k) (by omega)
      have v4 : vp_in (nI k) 4 := vp_in_nI (by omega) (by omega)
      refine ⟨fun _ => ⟨v4, ?_⟩, fun z => absurd (nI_lt (a := k) (b := 4) (by omega) (by omega)) z⟩
      rw [n1, rs.1 k (by omega)]
      by_cases ik : io k = true
      · rw [if_pos ik]
        rw [if_pos ik] at hP
        obtain ⟨w4, h4, wh⟩ := hio k (by omega) ik
        obtain ⟨r8, r9⟩ := rs.2.2.1 k (by omega) ik
        have nw := cl4 (p := w k) (by omega)
        have nh := cl4 (p := h k) (by omega)
        have vw : vp_in (nI (w k)) 4 := vp_in_nI (by omega) (by omega)
        have vh : vp_in (nI (h k)) 4 := vp_in_nI (by omega) (by omega)
        have tk := t9 k
        have bw : -36 ≤ unL w h io l k (w k) ∧ unL w h io l k (w k) ≤ 36 := by
          have := un_bd (w := w) (h := h) (io := io) (p := w k) k l9
          omega
        have bh : -36 ≤ unL w h io l k (h k) ∧ unL w h io l k (h k) ≤ 36 := by
          have := un_bd (w := w) (h := h) (io := io) (p := h k) k l9
          omega
        have step : ∀ (y m v : Nat) (N : Mem) (U : LST), y ≤ tp k → v + m = y + 1 → (∀ u, v ≤ u → u ≤ y → okL w h io l k u = true) → FE io k M N → StR io N U → fdF (fun v U => if okL w h io l k v = true then clF w h io tp n (ups l k v) U else U) v m U = fdF (fun v U => if okL w h io l k v = true then clF w h io tp n (ups l k v) U else U) 0 (tp k + 1) S → P143 N (nI (w k)) (nI (h k)) (nI y) (nI v) := by
          intro y m
          induction m with
          | zero =>
            intro v N U hy hv hok fe stU eU
            have eU : U = fdF (fun v U => if okL w h io l k v = true then clF w h io tp n (ups l k v) U else U) 0 (tp k + 1) S := eU
            refine h143 _ _ _ _ _ ⟨fun _ => hP N fe (by rw [← eU]; exact stU), fun z => absurd (nI_lt (by omega) (by omega)) z⟩
          | succ m ihm =>
            intro v N U hy hv hok fe stU eU
            have okv := hok v (Nat.le_refl _) (by omega)
            rw [fdF, if_pos okv] at eU
            refine h143 _ _ _ _ _ ⟨fun z => absurd z (nI_nlt (by omega) (by omega)), fun _ => ⟨v4, ?_⟩⟩
            rintro M12 rfl
            rw [n1, nw, nh]
            refine ⟨vw, vw, ?_⟩
            rintro M13 rfl
            refine ⟨vh, vh, ?_⟩
            rintro M14 rfl
            have g28 : ∀ p, p < 4 → rd N 28 p = iI (unL w h io l k p) := fun p hp => by rw [fe.2.2.1 p hp]; exact p28 p hp
            have m28 : ∀ p, p < 4 → rd (wr (wr (wr N 25 k (nI v)) 28 (w k) (rd (wr N 25 k (nI v)) 28 (w k) + nI v)) 28 (h k) (rd (wr (wr N 25 k (nI v)) 28 (w k) (rd (wr N 25 k (nI v)) 28 (w k) + nI v)) 28 (h k) - nI v)) 28 p = iI (unL w h io (ups l k v) (k + 1) p) := fun p hp => by
              rw [wr_q, wr_q, wr_q, if_neg (show ¬ h k = w k from fun z => wh z.symm), wr_n (by omega), wr_n (by omega), wr_n (by omega), g28 (w k) w4, g28 (h k) h4, g28 p hp, ← iI_n, iI_add, iI_sub, un_st]
              by_cases z1 : p = h k
              · rw [if_pos z1, if_neg (fun q => wh (q.2.trans z1)), if_pos ⟨ik, z1.symm⟩, ← z1]
                congr 1
                omega
              · rw [if_neg z1, if_neg (show ¬ (io k = true ∧ h k = p) from fun q => z1 q.2.symm)]
                by_cases z2 : p = w k
                · rw [if_pos z2, if_pos ⟨ik, z2.symm⟩, ← z2]
                  congr 1
                  omega
                · rw [if_neg z2, if_neg (fun q => z2 q.2.symm)]
                  congr 1
                  omega
            have o14 : ∀ q, q ≠ 25 → q ≠ 28 → ∀ j, rd (wr (wr (wr N 25 k (nI v)) 28 (w k) (rd (wr N 25 k (nI v)) 28 (w k) + nI v)) 28 (h k) (rd (wr (wr N 25 k (nI v)) 28 (w k) (rd (wr N 25 k (nI v)) 28 (w k) + nI v)) 28 (h k) - nI v)) q j = rd N q j := fun q h1 h2 j => by rw [wr_n h2, wr_n h2, wr_n h1]
            have m25 : ∀ j, rd (wr (wr (wr N 25 k (nI v)) 28 (w k) (rd (wr N 25 k (nI v)) 28 (w k) + nI v)) 28 (h k) (rd (wr (wr N 25 k (nI v)) 28 (w k) (rd (wr N 25 k (nI v)) 28 (w k) + nI v)) 28 (h k) - nI v)) 25 j = if j = k then nI v else rd N 25 j := fun j => by rw [wr_n (by omega), wr_n (by omega), wr_q]
            have x14 : (wr (wr (wr N 25 k (nI v)) 28 (w k) (rd (wr N 25 k (nI v)) 28 (w k) + nI v)) 28 (h k) (rd (wr (wr N 25 k (nI v)) 28 (w k) (rd (wr N 25 k (nI v)) 28 (w k) + nI v)) 28 (h k) - nI v)).2 = N.2 := rfl
            generalize wr (wr (wr N 25 k (nI v)) 28 (w k) (rd (wr N 25 k (nI v)) 28 (w k) + nI v)) 28 (h k) (rd (wr (wr N 25 k (nI v)) 28 (w k) (rd (wr N 25 k (nI v)) 28 (w k) + nI v)) 28 (h k) - nI v) = N14 at m28 o14 m25 x14 ⊢
            rw [nI_1 k]
            refine ih (k + 1) (by omega) fu (by omega) _ N14 (ups l k v) _ U ⟨fun j hj => ?_, fun p hp => ?_, fun j hj hi => ?_, fun j hj hi => ?_⟩ (fun j hj hi => ?_) (fun j hj => ?_) m28 ?_ (stU.of (o14 23 (by omega) (by omega) 6) (fun j => o14 26 (by omega) (by omega) j)) (fun M16 f16 st16 => ⟨vw, vw, ?_⟩)
            · rw [o14 24 (by omega) (by omega), fe.1 24 (by omega) (by omega) (by omega) (by omega)]; exact rs.1 j hj
            · rw [o14 27 (by omega) (by omega), fe.1 27 (by omega) (by omega) (by omega) (by omega)]; exact rs.2.1 p hp
            · rw [o14 8 (by omega) (by omega), o14 9 (by omega) (by omega), fe.1 8 (by omega) (by omega) (by omega) (by omega), fe.1 9 (by omega) (by omega) (by omega) (by omega)]; exact rs.2.2.1 j hj hi
            · rw [m25 j, if_neg (show ¬ j = k from fun z => hi (z ▸ ik)), fe.2.1 j hj (Or.inr hi)]; exact rs.2.2.2 j hj hi
            · rw [m25 j]
              by_cases e : j = k
              · rw [if_pos e, e, ups_s]
              · rw [if_neg e, ups_n e, fe.2.1 j (by omega) (Or.inl (by omega))]; exact p25 j (by omega) hi
            · by_cases e : j = k
              · rw [e, ups_s]; omega
              · rw [ups_n e]; exact l9 j (by omega)
            · rw [ea, nI_add, sm_ups]
            · rintro M17 rfl
              refine ⟨vh, vh, ?_⟩
              rintro M18 rfl x7 rfl
              rw [nI_1]
              refine ihm (v + 1) _ _ hy (by omega) (fun u h1 h2 => hok u (by omega) h2) ⟨fun q q1 q2 q3 q4 j => ?_, fun j hj hjk => ?_, fun p hp => ?_, ?_⟩ (st16.of ?_ (fun j => ?_)) eU
              · rw [wr_n q4, wr_n q4, f16.1 q q1 q2 q3 q4, o14 q q2 q4, fe.1 q q1 q2 q3 q4]
              · have jk : j ≠ k := fun e => by
                  rcases hjk with z | z
                  · omega
                  · exact z (e ▸ ik)
                rw [wr_n (by omega), wr_n (by omega), f16.2.1 j hj (by rcases hjk with z | z; exact Or.inl (by omega); exact Or.inr z), m25 j, if_neg jk, fe.2.1 j hj hjk]
              · have r16 : ∀ p, p < 4 → rd M16 28 p = iI (unL w h io (ups l k v) (k + 1) p) := fun p hp => by rw [f16.2.2.1 p hp]; exact m28 p hp
                rw [wr_q, wr_q, wr_q, if_neg (show ¬ h k = w k from fun z => wh z.symm), r16 (w k) w4, r16 (h k) h4, r16 p hp, p28 p hp, ← iI_n, iI_sub, iI_add, un_st, un_st, un_st]
                by_cases z1 : p = h k
                · rw [if_pos z1, if_neg (show ¬ (io k = true ∧ w k = h k) from fun q => wh q.2), if_pos ⟨ik, rfl⟩, ← z1]
                  congr 1
                  omega
                · rw [if_neg z1]
                  by_cases z2 : p = w k
                  · rw [if_pos z2, if_pos ⟨ik, rfl⟩, if_neg (show ¬ (io k = true ∧ h k = w k) from fun q => wh q.2.symm), ← z2]
                    congr 1
                    omega
                  · rw [if_neg z2, if_neg (show ¬ (io k = true ∧ w k = p) from fun q => z2 q.2.symm), if_neg (show ¬ (io k = true ∧ h k = p) from fun q => z1 q.2.symm)]
                    congr 1
                    omega
              · exact f16.2.2.2.trans (x14.trans fe.2.2.2)
              · rw [wr_n (by omega), wr_n (by omega)]
              · rw [wr_n (by omega), wr_n (by omega)]
        have loop : ∀ lo hi : Int, 0 ≤ lo → lo ≤ 500 → -500 ≤ hi → hi ≤ (tp k : Int) → (∀ v : Nat, v ≤ tp k → (okL w h io l k v = true ↔ lo ≤ (v : Int) ∧ (v : Int) ≤ hi)) → P143 M (nI (w k)) (nI (h k)) (iI hi) (iI lo) := by
          intro lo hi a1 a2 a3 a4 hok
          by_cases hl : hi < lo
          · have e : fdF (fun v U => if okL w h io l k v = true then clF w h io tp n (ups l k v) U else U) 0 (tp k + 1) S = S := fdF_no _ _ _ (fun u U h1 h2 => if_neg (fun z => by
              have := (hok u (by omega)).mp z
              omega))
            rw [e] at hP
            refine h143 _ _ _ _ _ ⟨fun _ => hP M (FE.rf _ _ _) st, fun z => absurd ((iI_lt (by omega) (by omega) (by omega) (by omega)).mpr hl) z⟩
          · obtain ⟨x, rfl⟩ : ∃ x : Nat, lo = x := ⟨lo.toNat, by omega⟩
            obtain ⟨y, rfl⟩ : ∃ y : Nat, hi = y := ⟨hi.toNat, by omega⟩
            rw [iI_n, iI_n]
            have xy : x ≤ y := by omega
            have yt : y ≤ tp k := by omega
            refine step y (y + 1 - x) x M S yt (by omega) (fun u h1 h2 => (hok u (by omega)).mpr ⟨by omega, by omega⟩) (FE.rf _ _ _) st ?_
            rw [show tp k + 1 = x + ((y + 1 - x) + (tp k - y)) by omega, fdF_add, fdF_no x 0 S (fun u U h1 h2 => if_neg (fun z => by
              have := (hok u (by omega)).mp z
              omega)), fdF_add, Nat.zero_add]
            refine (fdF_no _ _ _ (fun u U h1 h2 => if_neg (fun z => ?_))).symm
            have := (hok u (by omega)).mp z
            omega
        have b100 : ∀ lo hi : Int, 0 ≤ lo → lo ≤ 400 → -400 ≤ hi → hi ≤ (tp k : Int) → (∀ v : Nat, v ≤ tp k → ((lsT w h io 4 (w k) = nI k → unL w h io l k (w k) + (v : Int) = 0) ↔ lo ≤ (v : Int) ∧ (v : Int) ≤ hi)) → wp_X9_lessen_b100 Post (nI k) acc (wp_X9_lessen fu) P143 M (nI (w k)) (nI (h k)) (iI lo) (iI hi) := by
          intro lo hi a1 a2 a3 a4 hok
          unfold wp_X9_lessen_b100
          rw [nh, rs.2.1 (h k) h4, p28 (h k) h4]
          refine ⟨vh, fun z => loop lo hi a1 (by omega) (by omega) a4 (fun v hv => ?_), fun z => ⟨vh, fun x5 hx5 => ⟨vh, fun x6 hx6 => ?_⟩⟩⟩
          · unfold okL
            rw [decide_eq_true_iff, hok v hv]
            exact ⟨fun q => q.1, fun q => ⟨q, fun y => absurd y z⟩⟩
          · rw [iI_max (by omega) (by omega) (by omega) (by omega)] at hx5
            rw [iI_min (by omega) (by omega) (by omega) (by omega)] at hx6
            rw [hx5, hx6]
            refine loop _ _ (by omega) (by omega) (by omega) (by omega) (fun v hv => ?_)
            unfold okL
            rw [decide_eq_true_iff, hok v hv]
            refine ⟨fun q => ?_, fun q => ⟨by omega, fun _ => by omega⟩⟩
            have := q.2 z
            omega
        refine ⟨fun _ => ⟨v4, ?_⟩, fun z => absurd z (nI_nm1 (by omega))⟩
        rintro x3 rfl
        refine ⟨v4, ?_⟩
        rintro x4 rfl
        refine ⟨v4, ?_⟩
        rintro x6 rfl
        rw [r8, r9, nw, rs.2.1 (w k) w4, p28 (w k) w4]
        have ez : (0 : Int32) = iI 0 := iI_0.symm
        refine ⟨vw, fun z => ?_, fun z => ⟨vw, fun x5 hx5 => ⟨vw, fun x6 hx6 => ?_⟩⟩⟩
        · rw [ez, ← iI_n]
          refine b100 0 (tp k) (by omega) (by omega) (by omega) (by omega) (fun v hv => ⟨fun _ => by omega, fun _ y => absurd y z⟩)
        · rw [iI_neg, ez, iI_max (by omega) (by omega) (by omega) (by omega)] at hx5
          rw [iI_neg, ← iI_n, iI_min (by omega) (by omega) (by omega) (by omega)] at hx6
          rw [hx5, hx6]
          refine b100 _ _ (by omega) (by omega) (by omega) (by omega) (fun v hv => ⟨fun q => ?_, fun q _ => by omega⟩)
          have := q z
          omega
      · rw [if_neg ik]
        rw [if_neg ik] at hP
        refine ⟨fun z => absurd rfl z, fun _ => ?_⟩
        rw [nI_1]
        refine ih (k + 1) (by omega) fu (by omega) _ M (ups l k 0) acc S rs (fun j hj hi => ?_) (fun j hj => ?_) (fun p hp => ?_) ?_ st (fun M' f' st' => hP M' f'.up st')
        · by_cases e : j = k
          · exact absurd (e ▸ hi) ik
          · rw [ups_n e]; exact p25 j (by omega) hi
        · by_cases e : j = k
          · rw [e, ups_s]; omega
          · rw [ups_n e]; exact l9 j (by omega)
        · rw [un_st, if_neg (fun q => ik q.1), if_neg (fun q => ik q.1), p28 p hp]
          congr 1
          omega
        · rw [ea, sm_ups, Nat.add_zero]
