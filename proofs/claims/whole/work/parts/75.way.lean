/-! ===== ways told ===== -/
def fdN (g : Nat → Bool) : Nat → Nat → Int32
  | 0, _ => -1
  | n + 1, i => if g i = true then nI i else fdN g n (i + 1)
theorem fd_cg {g g' : Nat → Bool} : ∀ n i, (∀ k, i ≤ k → k < i + n → g k = g' k) → fdN g n i = fdN g' n i := by
  intro n
  induction n with
  | zero => intro i _; rfl
  | succ n ih =>
    intro i h
    rw [fdN, fdN, h i (Nat.le_refl _) (by omega), ih (i + 1) (fun k h1 h2 => h k (by omega) (by omega))]
theorem fd_is {g : Nat → Bool} : ∀ n i, fdN g n i = -1 ∨ ∃ k, i ≤ k ∧ k < i + n ∧ g k = true ∧ fdN g n i = nI k := by
  intro n
  induction n with
  | zero => intro i; exact Or.inl rfl
  | succ n ih =>
    intro i
    rw [fdN]
    by_cases h : g i = true
    · rw [if_pos h]; exact Or.inr ⟨i, Nat.le_refl _, by omega, h, rfl⟩
    · rw [if_neg h]
      rcases ih (i + 1) with z | ⟨k, h1, h2, h3, h4⟩
      · exact Or.inl z
      · exact Or.inr ⟨k, by omega, by omega, h3, h4⟩
theorem fd_no {g : Nat → Bool} : ∀ n i, (∀ k, i ≤ k → k < i + n → ¬ g k = true) → fdN g n i = -1 := by
  intro n i h
  rcases fd_is (g := g) n i with z | ⟨k, h1, h2, h3, h4⟩
  · exact z
  · exact absurd h3 (h k h1 h2)
theorem fd_st {g : Nat → Bool} {b j : Nat} (h : j < b) : fdN g (b - j) j = if g j = true then nI j else fdN g (b - (j + 1)) (j + 1) := by
  have e : b - j = (b - (j + 1)) + 1 := by omega
  rw [e, fdN]
def FV (F : Nat → Int32) (a : Nat) : Prop := ∀ r, r < a → F r = -1 ∨ ∃ m, m < 99 ∧ F r = nI m
def gC (H : Nat → Nat → Int32) (F : Nat → Int32) (p r k : Nat) : Bool := goB H p k (nI r) && decide (F (byH H k (nI r)).toNatClampNeg = F r - 1)
def F99 (F : Nat → Int32) : Nat → Int32 := fun r => if F r = -1 then 99 else F r
def ndW (H : Nat → Nat → Int32) (F : Nat → Int32) (p b r : Nat) : Int32 := if 0 < F r then fdN (gC H F p r) b 0 else -1
theorem nI_sub1 {m : Nat} (h : 1 ≤ m) : nI m - 1 = nI (m - 1) := by
  have e := nI_pred (m - 1)
  rw [show m - 1 + 1 = m by omega] at e
  exact e
theorem nI_0m1 : nI 0 - 1 = -1 := by decide
theorem nd_M {H : Nat → Nat → Int32} {F : Nat → Int32} {a b c d p r : Nat} (hB : BD a b c d) (hH : HOK H a b c d) (hF : FV F a) (hr : r < a) (hne : ¬ F r = -1) : fdN (gC H (F99 F) p r) b 0 = ndW H F p b r := by
  have hB2 := hB
  unfold BD at hB
  rcases hF r hr with e | ⟨m, hm, e⟩
  · exact absurd e hne
  have e9 : F99 F r = nI m := by unfold F99; rw [if_neg hne, e]
  unfold ndW
  by_cases m0 : m = 0
  · subst m0
    rw [if_neg (by rw [e]; decide)]
    refine fd_no b 0 (fun k _ hk z => ?_)
    unfold gC at z
    rw [Bool.and_eq_true, decide_eq_true_iff, e9, nI_0m1] at z
    obtain ⟨y, hy, ey⟩ := by_lt (r := nI r) hH (show k < b by omega)
    rw [ey, cl4 (by omega)] at z
    have z2 := z.2
    unfold F99 at z2
    rcases hF y hy with e2 | ⟨j, hj, e2⟩
    · rw [if_pos e2] at z2; exact absurd z2 (by decide)
    · rw [if_neg (by rw [e2]; exact nI_nm1 (by omega)), e2] at z2
      exact nI_nm1 (by omega) z2
  · have h0 : (0 : Int32) < F r := by rw [e]; exact nI_lt (a := 0) (b := m) (by omega) (by omega)
    rw [if_pos h0]
    refine fd_cg b 0 (fun k _ hk => ?_)
    unfold gC
    rw [e9, e, nI_sub1 (by omega)]
    obtain ⟨y, hy, ey⟩ := by_lt (r := nI r) hH (show k < b by omega)
    rw [ey, cl4 (by omega)]
    refine congrArg (fun t => goB H p k (nI r) && t) (decide_eq_decide.mpr ?_)
    unfold F99
    by_cases e2 : F y = -1
    · rw [if_pos e2, e2]
      refine ⟨fun z => ?_, fun z => absurd z.symm (nI_nm1 (by omega))⟩
      have := (nI_eq (a := 99) (b := m - 1) (by omega) (by omega)).mp z
      omega
    · rw [if_neg e2]
def wlk (H : Nat → Nat → Int32) (F : Nat → Int32) (p b r0 : Nat) : Nat → Nat × Int32
  | 0 => (r0, -1)
  | n + 1 => (if ndW H F p b (wlk H F p b r0 n).1 = -1 then (wlk H F p b r0 n).1 else (byH H (ndW H F p b (wlk H F p b r0 n).1).toNatClampNeg (nI (wlk H F p b r0 n).1)).toNatClampNeg, ndW H F p b (wlk H F p b r0 n).1)
theorem nd_is {H : Nat → Nat → Int32} {F : Nat → Int32} {p b r : Nat} : ndW H F p b r = -1 ∨ ∃ k, k < b ∧ 0 < F r ∧ gC H F p r k = true ∧ ndW H F p b r = nI k := by
  unfold ndW
  by_cases h : 0 < F r
  · rw [if_pos h]
    rcases fd_is (g := gC H F p r) b 0 with z | ⟨k, h1, h2, h3, h4⟩
    · exact Or.inl z
    · exact Or.inr ⟨k, by omega, h, h3, h4⟩
  · rw [if_neg h]; exact Or.inl rfl
theorem wlk_ok {H : Nat → Nat → Int32} {F : Nat → Int32} {a b c d p r0 : Nat} (hB : BD a b c d) (hH : HOK H a b c d) (hF : FV F a) (hr : r0 < a) : ∀ n, (wlk H F p b r0 n).1 < a ∧ (¬ F r0 = -1 → ¬ F (wlk H F p b r0 n).1 = -1) := by
  have hB2 := hB
  unfold BD at hB
  intro n
  induction n with
  | zero => exact ⟨hr, fun h => h⟩
  | succ n ih =>
    rw [wlk]
    generalize (wlk H F p b r0 n).1 = r at ih ⊢
    rcases nd_is (H := H) (F := F) (p := p) (b := b) (r := r) with z | ⟨k, h1, h2, h3, h4⟩
    · rw [if_pos z]; exact ih
    · rw [if_neg (by rw [h4]; exact nI_nm1 (by omega)), h4, cl4 (by omega)]
      obtain ⟨y, hy, ey⟩ := by_lt (r := nI r) hH h1
      rw [ey, cl4 (by omega)]
      refine ⟨hy, fun hne => ?_⟩
      unfold gC at h3
      rw [Bool.and_eq_true, decide_eq_true_iff, ey, cl4 (by omega)] at h3
      show ¬ F y = -1
      rw [h3.2]
      rcases hF r ih.1 with e | ⟨m, hm, e⟩
      · exact absurd e (ih.2 hne)
      · rw [e] at h2 ⊢
        by_cases m0 : m = 0
        · subst m0; exact absurd h2 (by decide)
        · rw [nI_sub1 (by omega)]; exact nI_nm1 (by omega)
theorem wlk_stop {H : Nat → Nat → Int32} {F : Nat → Int32} {p b r0 i : Nat} (h : ndW H F p b (wlk H F p b r0 i).1 = -1) : ∀ j, (wlk H F p b r0 (i + j)).1 = (wlk H F p b r0 i).1 ∧ (wlk H F p b r0 (i + j + 1)).2 = -1 := by
  intro j
  induction j with
  | zero => exact ⟨rfl, h⟩
  | succ j ih =>
    have e : (wlk H F p b r0 (i + (j + 1))).1 = (wlk H F p b r0 i).1 := by
      show (wlk H F p b r0 (i + j + 1)).1 = _
      rw [wlk, ih.1, if_pos h]
    refine ⟨e, ?_⟩
    show (wlk H F p b r0 (i + (j + 1) + 1)).2 = -1
    rw [wlk, e]; exact h
theorem wlk_s {H : Nat → Nat → Int32} {F : Nat → Int32} {p b r0 n : Nat} : (wlk H F p b r0 (n + 1)).2 = ndW H F p b (wlk H F p b r0 n).1 := rfl
theorem sp_doorNearer {Post : Int32 → Mem → Prop} {M : Mem} {o a b c d p r : Nat} {F : Nat → Int32} (hC : CO M o a b c d) (hp : p < 4) (hr : r < a) (hF : ∀ x, x < a → rd M 16 x = F x) (h : Post (ndW (stC M o) F p b r) M) : wp_X10_doorNearer Post M o (nI p) (nI r) := by
  intro P14 h14
  have hB := hC.2.2.2.2.1
  unfold BD at hB
  have n1 := cl4 (p := r) (by omega)
  have v6 : vp_in (nI r) 6 := vp_in_nI (by omega) (by omega)
  unfold ndW at h
  rw [n1, hF r hr]
  refine ⟨v6, fun z => ?_, fun z => ?_⟩
  · rw [if_pos z] at h
    refine for_up (S := Mem) (P := P14) (n := b) (fun i s => s = M ∧ fdN (gC (stC M o) F p r) (b - i) i = fdN (gC (stC M o) F p r) b 0) (fun s hs => ?_) (fun i s hi hs ih => ?_) 0 (Nat.zero_le _) M ⟨rfl, rfl⟩
    · obtain ⟨rfl, e⟩ := hs
      rw [← e, Nat.sub_self] at h
      exact h14 _ _ ⟨fun _ => h, fun y => absurd (by rw [hC.2.1]; exact Int32.le_refl _) y⟩
    · obtain ⟨rfl, e⟩ := hs
      rw [fd_st hi] at e
      refine h14 _ _ ⟨fun y => absurd y (by rw [hC.2.1]; exact le_n (by omega) hi), fun _ => ?_⟩
      rw [eqc_at hC hi]
      obtain ⟨y, hy, ey⟩ := by_lt (r := nI r) hC.2.2.2.2.2 hi
      have n2 := cl4 (p := y) (by omega)
      have vy : vp_in (nI y) 6 := vp_in_nI (by omega) (by omega)
      have eg : gC (stC s o) F p r i = (atB (stC s o) i (nI r) && pasB (stC s o) p i && decide (F y = F r - 1)) := by
        unfold gC goB
        rw [ey, n2]
      rw [eg] at e
      by_cases g1 : atB (stC s o) i (nI r) = true
      · rw [if_pos g1]
        refine ⟨fun q => absurd q (by decide), fun _ => ?_⟩
        rw [eqc_pass hC hp hi]
        by_cases g2 : pasB (stC s o) p i = true
        · rw [if_pos g2]
          refine ⟨fun q => absurd q (by decide), fun _ => ?_⟩
          rw [eqc_by hC hi, ey, n2, n1, hF y hy, hF r hr]
          refine ⟨vy, v6, fun q x4 hx4 => ?_, fun q => ?_⟩
          · rw [hx4, nI_1]
            rw [if_neg (by rw [g1, g2, decide_eq_false q]; decide)] at e
            exact ih s ⟨rfl, e⟩
          · rw [if_pos (by rw [g1, g2, decide_eq_true q]; rfl)] at e
            rw [e]; exact h
        · rw [if_neg g2]
          refine ⟨fun _ x4 hx4 => ?_, fun q => absurd rfl q⟩
          rw [hx4, nI_1]
          rw [if_neg (by rw [Bool.and_eq_true, Bool.and_eq_true]; exact fun q => g2 q.1.2)] at e
          exact ih s ⟨rfl, e⟩
      · rw [if_neg g1]
        refine ⟨fun _ x4 hx4 => ?_, fun q => absurd rfl q⟩
        rw [hx4, nI_1]
        rw [if_neg (by rw [Bool.and_eq_true, Bool.and_eq_true]; exact fun q => g1 q.1.1)] at e
        exact ih s ⟨rfl, e⟩
  · rw [if_neg z] at h
    exact h
theorem sp_wayDoor {Post : Int32 → Mem → Prop} {M : Mem} {o a b c d p t r0 n : Nat} {F : Nat → Int32} (hC : CO M o a b c d) (ho : 59 ≤ o) (hp : p < 4) (ht : t < a) (hr0 : r0 < a) (er : rd M (o + 2) p = nI r0) (hn : n ≤ 4) (hF : ∀ r, MN (adjH (stC M o) a b p) t r (F r) (-1)) (hFV : FV F a) (h : ∀ M', FQ 16 M M' → Post (wlk (stC M o) F p b r0 (n + 1)).2 M') : wp_X10_wayDoor Post M o (nI p) (nI t) (nI n) := by
  intro P21 h21
  have hB := hC.2.2.2.2.1
  have hB2 := hB
  unfold BD at hB
  have n1 := cl4 (p := p) (by omega)
  refine sp_measure hC ho hp ht (fun M2 f2 mn => ?_)
  have hC2 := f2.co (by omega) (by omega) hC
  have hH := f2.stC (o := o) (by omega) (by omega)
  have hF2 : ∀ x, x < a → rd M2 16 x = F x := fun x hx => mn_un (mn x hx) (hF x)
  refine ⟨vp_in_nI (by omega) (by omega), fun x5 hx5 => ?_⟩
  rw [n1, f2.1 (o + 2) (by omega), er] at hx5
  rw [hx5]
  have ok := wlk_ok (p := p) hB2 hC.2.2.2.2.2 hFV hr0
  refine for_up (S := Int32 × Int32) (P := fun s i => P21 M2 s.1 s.2 i) (n := n + 1) (fun i s => s = (nI (wlk (stC M o) F p b r0 i).1, (wlk (stC M o) F p b r0 i).2)) (fun s hs => ?_) (fun i s hi hs ih => ?_) 0 (Nat.zero_le _) (nI r0, -1) rfl
  · subst hs
    exact h21 _ _ _ _ ⟨fun _ => h M2 f2, fun z => absurd (nI_lt (by omega) (by omega)) z⟩
  · subst hs
    refine h21 _ _ _ _ ⟨fun z => absurd z (nI_nlt (by omega) (by omega)), fun _ => ?_⟩
    have oki := (ok i).1
    refine sp_doorNearer (F := F) hC2 hp oki hF2 ?_
    rw [hH]
    have nx := ih _ rfl
    rw [wlk] at nx
    generalize hx : (wlk (stC M o) F p b r0 i).1 = x at nx oki ⊢
    rcases nd_is (H := stC M o) (F := F) (p := p) (b := b) (r := x) with z | ⟨k, h1, h2, h3, h4⟩
    · refine ⟨fun y => absurd z y, fun _ => ?_⟩
      have := (wlk_stop (hx.symm ▸ z) (n - i)).2
      rw [show i + (n - i) + 1 = n + 1 by omega] at this
      rw [← this]; exact h M2 f2
    · have hne : ¬ nI k = -1 := nI_nm1 (by omega)
      rw [h4] at nx ⊢
      rw [if_neg hne, cl4 (by omega)] at nx
      refine ⟨fun _ => ?_, fun y => absurd y hne⟩
      rw [eqc_by hC2 h1, hH]
      intro x7 hx7
      rw [hx7, nI_1]
      obtain ⟨y, hy, ey⟩ := by_lt (r := nI x) hC.2.2.2.2.2 h1
      rw [ey, cl4 (by omega)] at nx
      rw [ey]
      exact nx
theorem mn_fv {A : Nat → Nat → Prop} {t a : Nat} {F : Nat → Int32} (h : ∀ r, MN A t r (F r) (-1)) : FV F a := fun r _ => by
  rcases h r with ⟨m, h1, h2, -⟩ | ⟨h1, -⟩
  · exact Or.inr ⟨m, h1, h2⟩
  · exact Or.inl h1
theorem sp_wayOf {Post : Int32 → Mem → Prop} {M : Mem} {a b c d p t r0 : Nat} {v3 res : Int32} {F : Nat → Int32} (hC : MO M a b c d) (hp : p < 4) (ht : t < a) (hr0 : r0 < a) (er : rd M 36 p = nI r0) (hF : ∀ r, MN (adjH (stM M) a b p) t r (F r) (-1)) (hFV : FV F a) (hv : v3 = 0 ∧ res = F r0 ∨ ∃ n, n ≤ 4 ∧ v3 = nI (10 + n) ∧ res = (wlk (stM M) F p b r0 (n + 1)).2) (h : ∀ M', FQ 46 M M' → Post res M') : wp_X12_wayOf Post M (nI p) (nI t) v3 := by
  intro P47 P68 h47 h68
  have hB := hC.2.2.2.2.1
  have hB2 := hB
  unfold BD at hB
  have n1 := cl4 (p := p) (by omega)
  have n0 := cl4 (p := r0) (by omega)
  refine sp_layFar hC hp ht (fun M2 f2 mn => ?_)
  have hC2 := f2.mo (by omega) hC
  have hH := f2.stM (by omega)
  have hF2 : ∀ x, x < a → rd M2 46 x = F99 F x := fun x hx => mn_un2 (hF x) (mn x hx)
  have v0 : vp_in (nI r0) 6 := vp_in_nI (by omega) (by omega)
  refine ⟨vp_in_nI (by omega) (by omega), fun x4 hx4 => ?_⟩
  rw [n1, f2.1 36 (by omega), er] at hx4
  rw [hx4, n0, hF2 r0 hr0]
  have f99 : F99 F r0 = 99 ↔ F r0 = -1 := by
    unfold F99
    by_cases e : F r0 = -1
    · rw [if_pos e]; exact ⟨fun _ => e, fun _ => rfl⟩
    · rw [if_neg e]
      refine ⟨fun z => ?_, fun z => absurd z e⟩
      rcases hFV r0 hr0 with e2 | ⟨m, hm, e2⟩
      · exact e2
      · exact absurd (z.symm.trans e2) (inf_99 m hm)
  refine ⟨v0, fun z => ⟨fun y => ?_, fun y => ⟨v0, ?_⟩⟩, fun z => ?_⟩
  · rw [f99] at z
    rcases hv with ⟨e, -⟩ | ⟨n, hn, e, e2⟩
    · exact absurd e y
    have ok := wlk_ok (p := p) hB2 hC.2.2.2.2.2 hFV hr0
    refine for_ix (S := Int32 × Int32) (P := fun s i => P47 M2 s.1 s.2 (nI (10 + i))) (n := n + 1) (fun i s => s = (nI (wlk (stM M) F p b r0 i).1, (wlk (stM M) F p b r0 i).2)) (fun s hs => ?_) (fun i s hi hs ih => ?_) 0 (Nat.zero_le _) (nI r0, -1) rfl
    · subst hs
      refine h47 _ _ _ _ ⟨fun _ => ?_, fun z => absurd (by rw [e]; exact nI_lt (by omega) (by omega)) z⟩
      have := h M2 f2
      rw [e2] at this
      exact this
    · subst hs
      refine h47 _ _ _ _ ⟨fun z => absurd z (by rw [e]; exact nI_nlt (by omega) (by omega)), fun _ => ?_⟩
      have nx := ih _ rfl
      rw [wlk] at nx
      obtain ⟨oki, okn⟩ := ok i
      have okn := okn z
      generalize (wlk (stM M) F p b r0 i).1 = x at nx oki okn ⊢
      have ndm := nd_M (p := p) hB2 hC.2.2.2.2.2 hFV oki okn
      intro x8 hx8
      rw [hx8, hC2.2.1]
      have nx0 := cl4 (p := x) (by omega)
      have vx : vp_in (nI x) 6 := vp_in_nI (by omega) (by omega)
      have down : ∀ j, j ≤ b → P68 M2 (nI x) (fdN (gC (stM M) (F99 F) p x) (b - j) j) (nI (10 + i)) (if fdN (gC (stM M) (F99 F) p x) (b - j) j = -1 then nI x else byH (stM M) (fdN (gC (stM M) (F99 F) p x) (b - j) j).toNatClampNeg (nI x)) (nI j - 1) := by
        intro j
        induction j with
        | zero =>
          intro _
          refine h68 _ _ _ _ _ _ ⟨fun _ => ?_, fun q => absurd (by decide) q⟩
          intro x6 hx6
          rw [hx6, nI_1, Nat.sub_zero, ndm]
          rcases nd_is (H := stM M) (F := F) (p := p) (b := b) (r := x) with q | ⟨k, h1, h2, h3, h4⟩
          · rw [if_pos q] at nx ⊢
            exact nx
          · have hne : ¬ nI k = -1 := nI_nm1 (by omega)
            rw [h4] at nx ⊢
            rw [if_neg hne, cl4 (by omega)] at nx ⊢
            obtain ⟨w, hw, ew⟩ := by_lt (r := nI x) hC.2.2.2.2.2 h1
            rw [ew, cl4 (by omega)] at nx
            rw [ew]
            exact nx
        | succ j ihj =>
          intro hj
          have ihj := ihj (by omega)
          rw [fd_st (show j < b by omega)] at ihj
          rw [nI_pred]
          refine h68 _ _ _ _ _ _ ⟨fun q => absurd q (nI_pos (by omega)), fun _ => ?_⟩
          rw [eqm_thr hC2 hp (by omega), hH]
          have em : ∀ y : Int32, y = nI j + (-1) → y = nI j - 1 := fun y hy => by rw [hy, Int32.sub_eq_add_neg]
          obtain ⟨w, hw, ew⟩ := by_lt (r := nI x) hC.2.2.2.2.2 (show j < b by omega)
          have n2 := cl4 (p := w) (by omega)
          have vw : vp_in (nI w) 6 := vp_in_nI (by omega) (by omega)
          by_cases g : goB (stM M) p j (nI x) = true
          · have en : nxt (stM M) p j (nI x) = nI w := by unfold nxt; rw [if_pos g, ew]
            rw [en, n2, nx0, hF2 w hw, hF2 x oki]
            refine ⟨fun q => absurd q (nI_nm1 (by omega)), fun _ => ⟨vw, vx, fun q y hy => ?_, fun q y hy => ?_⟩⟩
            · rw [em y hy]
              rw [if_neg (by unfold gC; rw [ew, n2, decide_eq_false q, Bool.and_false]; decide)] at ihj
              exact ihj
            · rw [em y hy]
              rw [if_pos (by unfold gC; rw [ew, n2, decide_eq_true q, g]; rfl), if_neg (nI_nm1 (by omega)), cl4 (by omega), ew] at ihj
              exact ihj
          · have en : nxt (stM M) p j (nI x) = -1 := by unfold nxt; rw [if_neg g]
            rw [en]
            refine ⟨fun _ y hy => ?_, fun q => absurd rfl q⟩
            rw [em y hy]
            rw [if_neg (by unfold gC; rw [Bool.and_eq_true]; exact fun q => g q.1)] at ihj
            exact ihj
      have fin := down b (Nat.le_refl _)
      rw [Nat.sub_self] at fin
      exact fin
  · rw [f99] at z
    rcases hv with ⟨e, e2⟩ | ⟨n, hn, e, e2⟩
    · have e3 : F99 F r0 = F r0 := by unfold F99; rw [if_neg z]
      rw [e3, ← e2]; exact h M2 f2
    · exact absurd (y.symm.trans e) (fun q => nI_ne0 (n := 10 + n) (by omega) (by omega) q.symm)
  · rw [f99] at z
    have := h M2 f2
    rcases hv with ⟨e, e2⟩ | ⟨n, hn, e, e2⟩
    · rw [e2, z] at this; exact this
    · have hnd : ndW (stM M) F p b (wlk (stM M) F p b r0 0).1 = -1 := by
        show ndW (stM M) F p b r0 = -1
        unfold ndW
        rw [if_neg (by rw [z]; decide)]
      have q := (wlk_stop hnd n).2
      rw [Nat.zero_add] at q
      rw [e2, q] at this; exact this
theorem TOK.at {T : TV} {a c p : Nat} (h : TOK T a c) (hp : p < c) : ∃ r, r < a ∧ T.2.1 p = nI r := h.1 p hp
theorem ob_way {n : Nat} {M : Mem} (hI : Inv n M) {a b c d : Nat} (hC : CO M 59 a b c d) (hM : MO M a b c d) (hT : TOK (tvM M) a c) {p t : Nat} (hp : p < c) (ht : t < a) {v : Int32} (hv : v = 0 ∨ ∃ m, m ≤ 4 ∧ v = nI (10 + m)) : OB (fun P M => wp_X11_way P M (nI p) (nI t) v) (fun P M => wp_X12_wayOf P M (nI p) (nI t) v) M := by
  have hB := hC.2.2.2.2.1
  have hB2 := hB
  unfold BD at hB
  obtain ⟨r0, hr0, er⟩ := hT.at hp
  obtain ⟨F, hF⟩ := Classical.axiomOfChoice (fun r => mn_ex (A := adjH (stM M) a b p) adj_lt ht (by omega) r)
  have hFV : FV F a := mn_fv hF
  have n1 := cl4 (p := p) (by omega)
  have n0 := cl4 (p := r0) (by omega)
  have vp : vp_in (nI p) c := vp_in_nI hp (by omega)
  have vt : vp_in (nI t) a := vp_in_nI ht (by omega)
  have key : ∀ res : Int32, (v = 0 ∧ res = F r0 ∨ ∃ m, m ≤ 4 ∧ v = nI (10 + m) ∧ res = (wlk (stM M) F p b r0 (m + 1)).2) → OB (fun P M => wp_X11_way P M (nI p) (nI t) v) (fun P M => wp_X12_wayOf P M (nI p) (nI t) v) M := by
    intro res hres
    refine ⟨res, fun M1 P f h => ?_, fun M1 P f h => ?_⟩
    · have hC1 := (f.both hI hC hM).1
      have hs := f.cs hI
      have ht2 := f.ct hI
      have er1 : rd M1 (59 + 2) p = nI r0 := by
        rw [← er, ← ht2]; exact (cut_lt (show p < 4 by omega)).symm
      show wp_X11_way P M1 (nI p) (nI t) v
      unfold wp_X11_way
      rw [eq_isNobody hC1.2.2.1 (by omega)]
      refine ⟨fun _ => ⟨fun z => absurd rfl z, fun _ => ?_⟩, fun z => absurd vp z⟩
      rw [eq_isNoRoom hC1.1 (by omega)]
      refine ⟨fun _ => ⟨fun _ => ⟨fun z => ?_, fun z => ?_⟩, fun z => absurd rfl z⟩, fun z => absurd vt z⟩
      · rcases hres with ⟨e, -⟩ | ⟨m, hm, e, e2⟩
        · exact absurd e z
        · rw [e]
          refine ⟨fun q => absurd q (nI_nlt (a := 10 + m) (b := 10) (by omega) (by omega)), fun _ => ⟨fun _ => ?_, fun q => absurd (nI_le (a := 10 + m) (b := 14) (by omega) (by omega)) q⟩⟩
          have e3 : nI (10 + m) - 10 = nI m := by
            have := pk_sub (a := 10 + m) (b := 10) (by omega)
            rw [show 10 + m - 10 = m by omega] at this
            exact this
          rw [e3]
          refine sp_wayDoor (F := F) hC1 (by omega) (by omega) ht hr0 er1 hm (by rw [hs]; exact hF) hFV (fun M' f' => ?_)
          rw [hs, ← e2]
          exact h M' (f'.fr (by unfold core; omega)) f'.2
      · rcases hres with ⟨-, e2⟩ | ⟨m, hm, e, e2⟩
        · refine sp_measure hC1 (by omega) (by omega) ht (fun M2 f2 mn => ?_)
          rw [n1, f2.1 (59 + 2) (by omega), er1, n0]
          rw [hs] at mn
          have e4 : rd M2 16 r0 = F r0 := mn_un (mn r0 hr0) (hF r0)
          rw [e4, ← e2]
          exact ⟨vp_in_nI (by omega) (by omega), vp_in_nI (by omega) (by omega), h M2 (f2.fr (by unfold core; omega)) f2.2⟩
        · exact absurd (z.symm.trans e) (fun q => nI_ne0 (n := 10 + m) (by omega) (by omega) q.symm)
    · have hM1 := (f.both hI hC hM).2
      have hs := f.st
      have er1 : rd M1 36 p = nI r0 := by
        rw [← er, ← f.tv]; exact (cut_lt (show p < 4 by omega)).symm
      refine sp_wayOf (F := F) (res := res) hM1 (by omega) ht hr0 er1 (by rw [hs]; exact hF) hFV (by rw [hs]; exact hres) (fun M' f' => ?_)
      exact h M' (f'.fr (by unfold core; omega)) f'.2
  rcases hv with e | ⟨m, hm, e⟩
  · exact key (F r0) (Or.inl ⟨e, rfl⟩)
  · exact key _ (Or.inr ⟨m, hm, e, rfl⟩)
theorem ob_way' {n : Nat} {M : Mem} (hI : Inv n M) (v1 v2 v3 : Int32) : OB (fun P M => wp_X11_way P M v1 v2 v3) (fun P M => wp_X12_way P M v1 v2 v3) M := by
  obtain ⟨a, b, c, d, hC, hM, hT⟩ := hI.both
  have hB := hC.2.2.2.2.1
  unfold BD at hB
  by_cases hp : vp_in v1 c
  · by_cases ht : vp_in v2 a
    · obtain ⟨p, hp1, rfl⟩ := vp_ex hp (by omega)
      obtain ⟨t, ht1, rfl⟩ := vp_ex ht (by omega)
      have ii := in_iff (v := v3) (b := 10) (c := 14) (lo := 10) (hi := 14) (by decide) (by decide)
      by_cases hv : v3 = 0 ∨ (10 ≤ v3.toInt ∧ v3.toInt ≤ 14)
      · have hv2 : v3 = 0 ∨ ∃ m, m ≤ 4 ∧ v3 = nI (10 + m) := by
          rcases hv with e | e
          · exact Or.inl e
          · obtain ⟨x, hx, rfl⟩ := vp_ex (v := v3) (n := 15) (vp_iff.mpr (by omega)) (by omega)
            rw [nI_toInt (by omega)] at e
            exact Or.inr ⟨x - 10, by omega, by rw [show 10 + (x - 10) = x by omega]⟩
        refine (ob_way hI hC hM hT hp1 ht1 hv2).mdl (fun M1 P f h => ?_)
        have hM1 := (f.both hI hC hM).2
        unfold wp_X12_way
        rw [eq_isPerson hM1.2.2.1 (by omega)]
        refine ⟨fun _ => ⟨fun z => absurd z (by decide), fun _ => ?_⟩, fun z => absurd hp z⟩
        rw [eq_isRoom hM1.1 (by omega)]
        refine ⟨fun _ => ⟨fun _ => ⟨fun _ => h, fun z => ?_⟩, fun z => absurd z (by decide)⟩, fun z => absurd ht z⟩
        rw [eq_in]
        rcases hv with e | e
        · exact absurd e z
        · rw [if_pos (ii.mpr e)]
          exact ⟨fun z => absurd z (by decide), fun _ => h⟩
      · have z0 : ¬ v3 = 0 := fun z => hv (Or.inl z)
        have zi : ¬ (10 ≤ v3.toInt ∧ v3.toInt ≤ 14) := fun z => hv (Or.inr z)
        have l10 : v3 < 10 ↔ v3.toInt < 10 := by rw [Int32.lt_iff_toInt_lt]; rfl
        have l14 : v3 ≤ 14 ↔ v3.toInt ≤ 14 := by rw [Int32.le_iff_toInt_le]; rfl
        refine OB.one (-102) (fun M1 P f h => ?_) (fun M1 P f h => ?_)
        · have hC1 := (f.both hI hC hM).1
          unfold wp_X11_way
          rw [eq_isNobody hC1.2.2.1 (by omega)]
          refine ⟨fun _ => ⟨fun z => absurd rfl z, fun _ => ?_⟩, fun z => absurd hp z⟩
          rw [eq_isNoRoom hC1.1 (by omega)]
          refine ⟨fun _ => ⟨fun _ => ⟨fun z => ⟨fun _ => h, fun y => ⟨fun y2 => ?_, fun _ => h⟩⟩, fun z => absurd z z0⟩, fun z => absurd rfl z⟩, fun z => absurd ht z⟩
          rw [l10] at y
          rw [l14] at y2
          omega
        · have hM1 := (f.both hI hC hM).2
          unfold wp_X12_way
          rw [eq_isPerson hM1.2.2.1 (by omega)]
          refine ⟨fun _ => ⟨fun z => absurd z (by decide), fun _ => ?_⟩, fun z => absurd hp z⟩
          rw [eq_isRoom hM1.1 (by omega)]
          refine ⟨fun _ => ⟨fun _ => ⟨fun z => absurd z z0, fun z => ?_⟩, fun z => absurd z (by decide)⟩, fun z => absurd ht z⟩
          rw [eq_in, if_neg (fun q => zi (ii.mp q))]
          exact ⟨fun _ => h, fun z => absurd rfl z⟩
    · refine OB.one (-101) (fun M1 P f h => ?_) (fun M1 P f h => ?_)
      · have hC1 := (f.both hI hC hM).1
        unfold wp_X11_way
        rw [eq_isNobody hC1.2.2.1 (by omega)]
        refine ⟨fun _ => ⟨fun z => absurd rfl z, fun _ => ?_⟩, fun z => absurd hp z⟩
        rw [eq_isNoRoom hC1.1 (by omega)]
        exact ⟨fun z => absurd z ht, fun _ => ⟨fun z => absurd z (by decide), fun _ => h⟩⟩
      · have hM1 := (f.both hI hC hM).2
        unfold wp_X12_way
        rw [eq_isPerson hM1.2.2.1 (by omega)]
        refine ⟨fun _ => ⟨fun z => absurd z (by decide), fun _ => ?_⟩, fun z => absurd hp z⟩
        rw [eq_isRoom hM1.1 (by omega)]
        exact ⟨fun z => absurd z ht, fun _ => ⟨fun z => absurd rfl z, fun _ => h⟩⟩
  · refine OB.one (-101) (fun M1 P f h => ?_) (fun M1 P f h => ?_)
    · have hC1 := (f.both hI hC hM).1
      unfold wp_X11_way
      rw [eq_isNobody hC1.2.2.1 (by omega)]
      exact ⟨fun z => absurd z hp, fun _ => ⟨fun _ => h, fun z => absurd z (by decide)⟩⟩
    · have hM1 := (f.both hI hC hM).2
      unfold wp_X12_way
      rw [eq_isPerson hM1.2.2.1 (by omega)]
      exact ⟨fun z => absurd z hp, fun _ => ⟨fun _ => h, fun z => absurd rfl z⟩⟩
