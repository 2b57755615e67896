/-! ===== the page: all letters; fault ===== -/
def FC (M M' : Mem) : Prop := (∀ q, q ≠ 1 → ∀ j, rd M' q j = rd M q j) ∧ rd M' 1 1 = rd M 1 1
theorem FC.tr {M N K : Mem} (h : FC M N) (g : FC N K) : FC M K := ⟨fun q hq j => (g.1 q hq j).trans (h.1 q hq j), g.2.trans h.2⟩
theorem FPg.fc {M M' : Mem} (h : FPg M M') : FC M M' := ⟨h.1, h.2 1 (by omega)⟩
theorem FC.w (M : Mem) {k : Nat} (v : Int32) (hk : k ≠ 1) : FC M (wr M 1 k v) := ⟨fun q hq j => wr_n hq j, wr_k 1 (fun e => hk e.symm)⟩
theorem FC.fr {M M' : Mem} (h : FC M M') : Fr M M' := ⟨fun q hq j => h.1 q (fun e => by subst e; unfold core at hq; omega) j, h.2, fun k _ => h.1 29 (by omega) k⟩
theorem FMd.fr {M M' : Mem} (h : FMd M M') : Fr M M' := ⟨fun q hq j => h.1 q (fun e => by subst e; unfold core at hq; omega) j, h.1 1 (by omega) 1, fun k hk => h.2 k (by unfold slots29 at hk; omega) (by unfold slots29 at hk; omega)⟩
def PCl (lt : Nat → Nat) (l : Nat) (M : Mem) : Prop := rd M 1 1 = nI l ∧ ∀ j, j < l → rd M 2 j = nI (lt j)
theorem PCl.to {lt : Nat → Nat} {l : Nat} {M M' : Mem} (h : PCl lt l M) (f : FC M M') : PCl lt l M' := ⟨f.2.trans h.1, fun j hj => (f.1 2 (by omega) j).trans (h.2 j hj)⟩
def RunC (lt : Nat → Nat) (l i : Nat) (s : ST) (Q : Mem → Prop) : Prop := ∀ (M : Mem) (P42 : Mem → Int32 → Prop) (Post : Mem → Prop), (∀ (M : Mem) (v : Int32), wp_X6_scan_b42 Post P42 M v → P42 M v) → CSt M s → PCl lt l M → rd M 1 3 = 0 → (∀ M', FC M M' → Q M' → Post M') → P42 M (nI i)
def RunM (lt : Nat → Nat) (l i : Nat) (s : ST) (F : Nat) (Q : Mem → Prop) : Prop := ∀ (M : Mem) (P12 : Mem → Int32 → Prop) (Post : Int32 → Mem → Prop), (∀ (M : Mem) (v : Int32), wp_X12_faultOf_b12 Post P12 M v → P12 M v) → MSt lt l M s → (∀ M', FMd M M' → Q M' → Post (nI F) M') → P12 M (nI i)
def whB (s : ST) : Int32 := if s.1 = 3 ∧ s.2.1 = 4 then 1 else 0
def RunR (lt : Nat → Nat) (l i : Nat) (s : ST) : Prop := (∃ F, F < l ∧ RunC lt l i s (fun M' => rd M' 1 2 = nI F ∧ rd M' 1 3 = 0) ∧ RunM lt l i s F (fun _ => True)) ∨ ∃ s' : ST, JS lt l s' ∧ RunC lt l i s (fun M' => rd M' 1 2 = nI l ∧ CSt M' s' ∧ rd M' 1 3 = whB s') ∧ RunM lt l i s l (fun M' => MSt lt l M' s')
theorem JS.bd {lt : Nat → Nat} {i : Nat} {s : ST} (h : JS lt i s) : s.1 < 1000 ∧ s.2.1 < 1000 := by
  obtain ⟨fi, R, dr, pe, de, H⟩ := h
  rcases H with ⟨rfl, H⟩ | ⟨rfl, H⟩ | ⟨rfl, H⟩ | ⟨rfl, H⟩ | ⟨rfl, H⟩ | ⟨rfl, H⟩ | ⟨rfl, H⟩ | ⟨rfl, H⟩ | ⟨rfl, H⟩ | ⟨rfl, H⟩ | ⟨rfl, H⟩ | ⟨rfl, H⟩ | ⟨rfl, H⟩ | ⟨rfl, H⟩ | ⟨rfl, H⟩ <;> exact ⟨Nat.le_of_ble_eq_true rfl, Nat.le_of_ble_eq_true rfl⟩
theorem run_end {lt : Nat → Nat} {l : Nat} {s : ST} (hl : l ≤ 64) (h : JS lt l s) : RunR lt l l s := by
  refine Or.inr ⟨s, h, fun M P42 Post loop c p z hP => loop _ _ ⟨fun _ M9 e9 => ?_, fun z => absurd (by rw [p.1]; exact Int32.le_refl _) z⟩, fun M P12 Post loop m hP => loop _ _ ⟨fun _ => hP M (FMd.rf M) m, fun z => absurd (by rw [m.1]; exact Int32.le_refl _) z⟩⟩
  obtain ⟨b1, b2⟩ := h.bd
  have q3 : ∀ {x : Nat}, x < 1000 → (nI x = 3 ↔ x = 3) := fun hx => eq_lit (y := 3) hx (by omega)
  have q4 : ∀ {x : Nat}, x < 1000 → (nI x = 4 ↔ x = 4) := fun hx => eq_lit (y := 4) hx (by omega)
  have c9 : CSt M9 s := by
    rw [e9]
    exact ⟨(wr_k 1 (by omega)).trans c.1, (wr_k 1 (by omega)).trans c.2.1, (wr_k 1 (by omega)).trans c.2.2.1, (wr_k 1 (by omega)).trans c.2.2.2.1, (wr_k 1 (by omega)).trans c.2.2.2.2.1, (wr_k 1 (by omega)).trans c.2.2.2.2.2.1, (wr_k 1 (by omega)).trans c.2.2.2.2.2.2⟩
  have f9 : FC M M9 := by
    rw [e9]
    exact FC.w M _ (by omega)
  have r9 : rd M9 1 2 = nI l := by
    rw [e9, wr_s, p.1]
  have fin : ∀ (v : Int32) (M10 : Mem), M10 = wr M9 1 3 v → v = whB s → Post M10 := fun v M10 e10 ev => by
    refine hP M10 (by rw [e10]; exact f9.tr (FC.w M9 _ (by omega))) ⟨?_, ?_, ?_⟩
    · rw [e10, wr_k 1 (by omega), r9]
    · rw [e10]
      exact ⟨(wr_k 1 (by omega)).trans c9.1, (wr_k 1 (by omega)).trans c9.2.1, (wr_k 1 (by omega)).trans c9.2.2.1, (wr_k 1 (by omega)).trans c9.2.2.2.1, (wr_k 1 (by omega)).trans c9.2.2.2.2.1, (wr_k 1 (by omega)).trans c9.2.2.2.2.2.1, (wr_k 1 (by omega)).trans c9.2.2.2.2.2.2⟩
    · rw [e10, wr_s, ev]
  rw [c9.1, c9.2.1, q3 b1, q4 b2]
  unfold whB at fin
  refine ⟨fun y M10 e10 => fin 0 M10 e10 ?_, fun y => ⟨fun x M10 e10 => fin 0 M10 e10 ?_, fun x M10 e10 => fin 1 M10 e10 ?_⟩⟩
  · rw [if_neg (fun w => y w.1)]
  · rw [if_neg (fun w => x w.2)]
  · rw [if_pos ⟨y, x⟩]
theorem run_all {lt : Nat → Nat} {l : Nat} (hl : l ≤ 64) (hlt : ∀ j, j < l → lt j < 127) : ∀ k i s, i + k = l → JS lt i s → RunR lt l i s := by
  intro k
  induction k with
  | zero =>
    intro i s hi hs
    have : i = l := by omega
    subst this
    exact run_end hl hs
  | succ k ih =>
    intro i s hi hs
    have hil : i < l := by omega
    have hx := hlt i hil
    have lead : ∀ {M : Mem}, PCl lt l M → (((rd M 2 (nI i).toNatClampNeg).toUInt32 % 65536).toInt32) = nI (lt i) := fun p => by
      rw [cl4 (by omega), p.2 i hil, ch_all _ hx]
    have goC : ∀ {s' : ST} {Q : Mem → Prop}, (∀ (M : Mem) (Post : Int32 → Mem → Prop), CSt M s → (∀ M', FPg M M' → CSt M' s' → Post 1 M') → wp_X6_takes Post M (nI (lt i))) → RunC lt l (i + 1) s' Q → RunC lt l i s Q := fun tk rc M P42 Post loop c p z hP => by
      refine loop _ _ ⟨fun y => absurd y (by rw [p.1]; exact le_n (by omega) hil), fun _ => ⟨vp_in_nI (by omega) (by omega), ?_⟩⟩
      rw [lead p]
      refine tk M _ c (fun M' f c' => ⟨fun _ x hx => ?_, fun y => absurd y (by decide)⟩)
      rw [hx, nI_1]
      exact rc M' P42 Post loop c' (p.to f.fc) ((f.2 3 (by omega)).trans z) (fun M'' f'' q => hP M'' (f.fc.tr f'') q)
    have goM : ∀ {s' : ST} {F : Nat} {Q : Mem → Prop}, (∀ (M : Mem) (Post : Int32 → Mem → Prop), MSt lt l M s → (∀ M', FMd M M' → MSt lt l M' s' → Post 1 M') → wp_X12_isGood Post M (nI i)) → RunM lt l (i + 1) s' F Q → RunM lt l i s F Q := fun gd rm M P12 Post loop m hP => by
      refine loop _ _ ⟨fun y => absurd y (by rw [m.1]; exact le_n (by omega) hil), fun _ => ?_⟩
      refine gd M _ m (fun M' f m' => ⟨fun y => absurd y (by decide), fun _ x hx => ?_⟩)
      rw [hx, nI_1]
      exact rm M' P12 Post loop m' (fun M'' f'' q => hP M'' (f.tr f'') q)
    rcases st_all hl hil hx hs with ⟨s', hs', tk, gd⟩ | ⟨tk, gd⟩
    · rcases ih (i + 1) s' (by omega) hs' with ⟨F, hF, rc, rm⟩ | ⟨s2, h2, rc, rm⟩
      · exact Or.inl ⟨F, hF, goC tk rc, goM gd rm⟩
      · exact Or.inr ⟨s2, h2, goC tk rc, goM gd rm⟩
    · refine Or.inl ⟨i, hil, fun M P42 Post loop c p z hP => ?_, fun M P12 Post loop m hP => ?_⟩
      · refine loop _ _ ⟨fun y => absurd y (by rw [p.1]; exact le_n (by omega) hil), fun _ => ⟨vp_in_nI (by omega) (by omega), ?_⟩⟩
        rw [lead p]
        refine tk M _ c (fun M' f => ⟨fun y => absurd rfl y, fun _ M16 e16 => ?_⟩)
        refine hP M16 (by rw [e16]; exact f.fc.tr (FC.w M' _ (by omega))) ⟨?_, ?_⟩
        · rw [e16, wr_s]
        · rw [e16, wr_k 1 (by omega), f.2 3 (by omega), z]
      · refine loop _ _ ⟨fun y => absurd y (by rw [m.1]; exact le_n (by omega) hil), fun _ => ?_⟩
        exact gd M _ m (fun M' f => ⟨fun _ => hP M' f trivial, fun y => absurd rfl y⟩)
def ScC (lt : Nat → Nat) (l : Nat) (Q : Mem → Prop) : Prop := ∀ (M : Mem) (Post : Mem → Prop), PCl lt l M → (∀ M', FC M M' → Q M' → Post M') → wp_X6_scan Post M
def ScM (lt : Nat → Nat) (l F : Nat) (Q : Mem → Prop) : Prop := ∀ (M : Mem) (Post : Int32 → Mem → Prop), rd M 29 1 = nI l → (∀ j, j < l → rd M 30 j = nI (lt j)) → (∀ M', FMd M M' → Q M' → Post (nI F) M') → wp_X12_faultOf Post M
theorem page_run {lt : Nat → Nat} {l : Nat} (hl : l ≤ 64) (hlt : ∀ j, j < l → lt j < 127) : (∃ F, F < l ∧ ScC lt l (fun M' => rd M' 1 2 = nI F ∧ rd M' 1 3 = 0) ∧ ScM lt l F (fun _ => True)) ∨ ∃ s' : ST, JS lt l s' ∧ ScC lt l (fun M' => rd M' 1 2 = nI l ∧ CSt M' s' ∧ rd M' 1 3 = whB s') ∧ ScM lt l l (fun M' => MSt lt l M' s') := by
  have kC : ∀ {Q : Mem → Prop}, RunC lt l 0 (0, 0, 0, 0, 0, 0, 0) Q → ScC lt l Q := fun rc M Post p hP => by
    intro P42 loop M1 e1 M2 e2 M3 e3 M4 e4 M5 e5 M6 e6 M7 e7 M8 e8
    have f1 : FC M M1 := by rw [e1]; exact FC.w _ _ (by omega)
    have f2 : FC M M2 := by rw [e2]; exact f1.tr (FC.w _ _ (by omega))
    have f3 : FC M M3 := by rw [e3]; exact f2.tr (FC.w _ _ (by omega))
    have f4 : FC M M4 := by rw [e4]; exact f3.tr (FC.w _ _ (by omega))
    have f5 : FC M M5 := by rw [e5]; exact f4.tr (FC.w _ _ (by omega))
    have f6 : FC M M6 := by rw [e6]; exact f5.tr (FC.w _ _ (by omega))
    have f7 : FC M M7 := by rw [e7]; exact f6.tr (FC.w _ _ (by omega))
    have f8 : FC M M8 := by rw [e8]; exact f7.tr (FC.w _ _ (by omega))
    refine rc M8 P42 Post loop ⟨?_, ?_, ?_, ?_, ?_, ?_, ?_⟩ (p.to f8) (by rw [e8, wr_s]) (fun M' f q => hP M' (f8.tr f) q)
    · rw [e8, wr_k 1 (by omega), e7, wr_k 1 (by omega), e6, wr_k 1 (by omega), e5, wr_k 1 (by omega), e4, wr_k 1 (by omega), e3, wr_k 1 (by omega), e2, wr_k 1 (by omega), e1, wr_s]
      rfl
    · rw [e8, wr_k 1 (by omega), e7, wr_k 1 (by omega), e6, wr_k 1 (by omega), e5, wr_k 1 (by omega), e4, wr_k 1 (by omega), e3, wr_k 1 (by omega), e2, wr_s]
      rfl
    · rw [e8, wr_k 1 (by omega), e7, wr_k 1 (by omega), e6, wr_k 1 (by omega), e5, wr_k 1 (by omega), e4, wr_k 1 (by omega), e3, wr_s]
      rfl
    · rw [e8, wr_k 1 (by omega), e7, wr_k 1 (by omega), e6, wr_k 1 (by omega), e5, wr_k 1 (by omega), e4, wr_s]
      rfl
    · rw [e8, wr_k 1 (by omega), e7, wr_k 1 (by omega), e6, wr_k 1 (by omega), e5, wr_s]
      rfl
    · rw [e8, wr_k 1 (by omega), e7, wr_k 1 (by omega), e6, wr_s]
      rfl
    · rw [e8, wr_k 1 (by omega), e7, wr_s]
      rfl
  have kM : ∀ {F : Nat} {Q : Mem → Prop}, RunM lt l 0 (0, 0, 0, 0, 0, 0, 0) F Q → ScM lt l F Q := fun rm M Post p1 p2 hP => by
    intro P12 loop M1 e1 M2 e2
    have f1 : FMd M M1 := by rw [e1]; exact FMd.w _ _ (Or.inl rfl)
    have f2 : FMd M M2 := by rw [e2]; exact f1.tr (FMd.w _ _ (Or.inr rfl))
    refine rm M2 P12 Post loop ⟨?_, fun j hj => ?_, ?_, ?_⟩ (fun M' f q => hP M' (f2.tr f) q)
    · rw [f2.2 1 (by omega) (by omega), p1]
    · rw [f2.1 30 (by omega), p2 j hj]
    · rw [e2, wr_k 29 (by omega), e1, wr_s]
      rfl
    · rw [e2, wr_s]
      rfl
  rcases run_all hl hlt l 0 (0, 0, 0, 0, 0, 0, 0) (by omega) ⟨0, 0, 0, 0, 0, Or.inl ⟨rfl, rfl⟩⟩ with ⟨F, hF, rc, rm⟩ | ⟨s2, h2, rc, rm⟩
  · exact Or.inl ⟨F, hF, kC rc, kM rm⟩
  · exact Or.inr ⟨s2, h2, kC rc, kM rm⟩
theorem Inv.lts {n : Nat} {M : Mem} (h : Inv n M) : ∃ lt l, l ≤ 64 ∧ (∀ j, j < l → lt j < 127) ∧ rd M 29 1 = nI l ∧ (∀ j, j < l → rd M 30 j = nI (lt j)) ∧ PCl lt l M := by
  obtain ⟨-, a, b, c, d, -, -, -, -, -, -, -, ⟨l, l1, l2, l3, l4, l5⟩, -⟩ := h
  have key : ∀ j, j < l → rd M 30 j = nI (rd M 30 j).toNatClampNeg ∧ (rd M 30 j).toNatClampNeg < 127 := fun j hj => by
    obtain ⟨x, x1, x2, x3⟩ := l5 j hj
    rw [x3, cl4 (by omega)]
    exact ⟨rfl, by omega⟩
  exact ⟨fun j => (rd M 30 j).toNatClampNeg, l, l1, fun j hj => (key j hj).2, l3, fun j hj => (key j hj).1, l2, fun j hj => (l4 j).trans (key j hj).1⟩
theorem op_fault {n : Nat} {M : Mem} {K : Mem → Prop} (hI : Inv n M) (hK : ∀ M', Inv n M' → K M') : wp_X11_fault (fun r M1 => wp_X12_fault (fun r' M2 => (r = r' → K M2) ∧ (¬ r = r' → False)) M1) M := by
  obtain ⟨lt, l, hl, hlt, p1, p2, pc⟩ := hI.lts
  rcases page_run hl hlt with ⟨F, hF, sc, sm⟩ | ⟨s, hs, sc, sm⟩
  · refine sc M _ pc (fun M1 f1 q1 => sm M1 _ ((f1.1 29 (by omega) 1).trans p1) (fun j hj => (f1.1 30 (by omega) j).trans (p2 j hj)) (fun M2 f2 _ => fin_eq q1.1 (hK _ ((f1.fr.tr f2.fr).inv hI))))
  · refine sc M _ pc (fun M1 f1 q1 => sm M1 _ ((f1.1 29 (by omega) 1).trans p1) (fun j hj => (f1.1 30 (by omega) j).trans (p2 j hj)) (fun M2 f2 _ => fin_eq q1.1 (hK _ ((f1.fr.tr f2.fr).inv hI))))
