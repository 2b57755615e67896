/-! ===== a chain that must stop (fb_holes out of the kit's rows to paste) ===== -/
theorem fb_holes : ∀ (m n : Nat) (f : Nat → Nat), (∀ i, i < n → f i < m) → (∀ i j, i < j → j < n → f i ≠ f j) → n ≤ m := by
  intro m
  induction m with
  | zero =>
    intro n f h1 _
    rcases Nat.eq_zero_or_pos n with h | h
    · omega
    · exact absurd (h1 0 h) (Nat.not_lt_zero _)
  | succ m ih =>
    intro n f h1 h2
    by_cases hx : ∃ i, i < n ∧ f i = m
    · obtain ⟨a, ha, hfa⟩ := hx
      have hg := ih (n - 1) (fun i => if i < a then f i else f (i + 1)) (by
        intro i hi
        by_cases q : i < a
        · simp only [if_pos q]
          have b1 := h1 i (by omega)
          have b2 := h2 i a q ha
          omega
        · simp only [if_neg q]
          have b1 := h1 (i + 1) (by omega)
          have b2 := h2 a (i + 1) (by omega) (by omega)
          omega) (by
        intro i j hij hj
        by_cases q : i < a
        · by_cases r : j < a
          · simp only [if_pos q, if_pos r]
            exact h2 i j hij (by omega)
          · simp only [if_pos q, if_neg r]
            exact h2 i (j + 1) (by omega) (by omega)
        · have r : ¬ j < a := by omega
          simp only [if_neg q, if_neg r]
          exact h2 (i + 1) (j + 1) (by omega) (by omega))
      omega
    · have hg := ih n f (fun i hi => by
        have b1 := h1 i hi
        have b2 : f i ≠ m := fun e => hx ⟨i, hi, e⟩
        omega) h2
      omega
theorem chain {α : Type} (X : Nat → α) (g : α → α) (hX : ∀ i, X (i + 1) = g (X i)) (c : Nat) (F : Nat → Nat → Prop) (mono : ∀ i p, F i p → F (i + 1) p) (grow : ∀ i, X (i + 1) ≠ X i → ∃ p, p < c ∧ ¬ F i p ∧ F (i + 1) p) : ∀ j, c ≤ j → X j = X c := by
  have stay : ∀ i, X (i + 1) = X i → ∀ j, X (i + j) = X i := by
    intro i h j
    induction j with
    | zero => rfl
    | succ j ih =>
      have : X (i + (j + 1)) = g (X (i + j)) := hX (i + j)
      rw [this, ih, ← hX, h]
  have mono2 : ∀ i j p, F i p → F (i + j) p := by
    intro i j p h
    induction j with
    | zero => exact h
    | succ j ih => exact mono (i + j) p ih
  have ex : ∃ i, i ≤ c ∧ X (i + 1) = X i := by
    refine Classical.byContradiction fun hx => ?_
    have all : ∀ i, ∃ p, i ≤ c → p < c ∧ ¬ F i p ∧ F (i + 1) p := fun i => by
      by_cases hi : i ≤ c
      · obtain ⟨p, hp⟩ := grow i (fun e => hx ⟨i, hi, e⟩)
        exact ⟨p, fun _ => hp⟩
      · exact ⟨0, fun z => absurd z hi⟩
    obtain ⟨f, hf⟩ := Classical.axiomOfChoice all
    have := fb_holes c (c + 1) f (fun i hi => (hf i (by omega)).1) (fun i j hij hj e => by
      have h1 := (hf i (by omega)).2.2
      have h2 := (hf j (by omega)).2.1
      have h3 := mono2 (i + 1) (j - (i + 1)) (f i) h1
      rw [show i + 1 + (j - (i + 1)) = j by omega] at h3
      exact h2 (e ▸ h3))
    omega
  obtain ⟨i, hi, e⟩ := ex
  intro j hj
  have h1 := stay i e (j - i)
  have h2 := stay i e (c - i)
  rw [show i + (j - i) = j by omega] at h1
  rw [show i + (c - i) = c by omega] at h2
  rw [h1, h2]
def FP (H : Nat → Nat → Int32) (d : Nat) (T : TV) (p : Nat) : Prop := ∀ k, k < d → H 5 k = nI p → ¬ T.2.2 k = 0
def PM (T T' : TV) : Prop := ∀ k, ¬ T.2.2 k = 0 → ¬ T'.2.2 k = 0
theorem PM.rf (T : TV) : PM T T := fun _ h => h
theorem PM.tr {T U V : TV} (h : PM T U) (g : PM U V) : PM T V := fun k z => g k (h k z)
theorem pm_stl {H : Nat → Nat → Int32} {T : TV} {j : Nat} : PM T (stl H T j) := fun k z => by
  show ¬ (if k = j then 1 else T.2.2 k) = 0
  by_cases e : k = j
  · rw [if_pos e]; decide
  · rw [if_neg e]; exact z
theorem pm_set {H : Nat → Nat → Int32} {p : Nat} {T : TV} : ∀ n, PM T (setA H p T n) := by
  intro n
  induction n with
  | zero => exact PM.rf T
  | succ n ih =>
    rw [setA]
    by_cases e : H 5 n = nI p ∧ (setA H p T n).2.2 n = 0
    · rw [if_pos e]; exact ih.tr pm_stl
    · rw [if_neg e]; exact ih
theorem set_same {H : Nat → Nat → Int32} {d p : Nat} {T : TV} (h : FP H d T p) : ∀ n, n ≤ d → setA H p T n = T := by
  intro n
  induction n with
  | zero => intro _; rfl
  | succ n ih =>
    intro hn
    rw [setA, ih (by omega), if_neg (fun z => h n (by omega) z.1 z.2)]
theorem set_free {H : Nat → Nat → Int32} {p : Nat} {T : TV} : ∀ n k, k < n → H 5 k = nI p → ¬ (setA H p T n).2.2 k = 0 := by
  intro n
  induction n with
  | zero => intro k hk; omega
  | succ n ih =>
    intro k hk e
    rw [setA]
    by_cases g : H 5 n = nI p ∧ (setA H p T n).2.2 n = 0
    · rw [if_pos g]
      by_cases ek : k = n
      · show ¬ (if k = n then (1 : Int32) else _) = 0
        rw [if_pos ek]; decide
      · exact pm_stl k (ih k (by omega) e)
    · rw [if_neg g]
      by_cases ek : k = n
      · subst ek; exact fun z => g ⟨e, z⟩
      · exact ih k (by omega) e
theorem pm_rnP {H : Nat → Nat → Int32} {d p : Nat} {T : TV} : PM T (rnP H d p T) := by
  unfold rnP
  by_cases e : T.1 p < owA H T p d
  · rw [if_pos e]; exact PM.rf T
  · rw [if_neg e]; exact pm_set d
theorem pm_rnd {H : Nat → Nat → Int32} {d : Nat} {T : TV} : ∀ n, PM T (rnd H d T n) := by
  intro n
  induction n with
  | zero => exact PM.rf T
  | succ n ih => rw [rnd]; exact ih.tr pm_rnP
theorem rnd_grow {H : Nat → Nat → Int32} {d : Nat} {T : TV} : ∀ n, rnd H d T n ≠ T → ∃ p, p < n ∧ ¬ FP H d T p ∧ FP H d (rnd H d T n) p := by
  intro n
  induction n with
  | zero => intro h; exact absurd rfl h
  | succ n ih =>
    intro h
    by_cases e : rnd H d T n = T
    · rw [rnd, e] at h ⊢
      unfold rnP at h ⊢
      by_cases g : T.1 n < owA H T n d
      · rw [if_pos g] at h; exact absurd rfl h
      · rw [if_neg g] at h ⊢
        exact ⟨n, by omega, fun z => h (set_same z d (Nat.le_refl _)), fun k hk => set_free d k hk⟩
    · obtain ⟨p, hp, h1, h2⟩ := ih e
      refine ⟨p, by omega, h1, fun k hk z => ?_⟩
      rw [rnd]
      exact pm_rnP k (h2 k hk z)
theorem rns_4 {H : Nat → Nat → Int32} {c d : Nat} {T : TV} (hc : c ≤ 4) : rns H c d T 4 = rns H c d T c :=
  chain (rns H c d T) (fun U => rnd H d U c) (fun _ => rfl) c (fun i p => FP H d (rns H c d T i) p) (fun i p h k hk z => pm_rnd c k (h k hk z)) (fun i h => rnd_grow c h) 4 hc
theorem ob_sound {n : Nat} {M : Mem} (hI : Inv n M) {a b c d : Nat} (hC : CO M 59 a b c d) (hM : MO M a b c d) (hT : TOK (tvM M) a c) (hc0 : ¬ c = 0) : OB (fun P M => wp_X11_sound P M) (fun P M => wp_X12_soundOf P M) M := by
  have hB := hC.2.2.2.2.1
  unfold BD at hB
  refine ⟨orU (fun p => decide (owA (stM M) (rns (stM M) c d (tvM M) c) p d = 0)) c, fun M1 P f h => ?_, fun M1 P f h => ?_⟩
  · have hC1 := (f.both hI hC hM).1
    have nc : ¬ rd M1 3 2 = 0 := by rw [hC1.2.2.1]; exact nI_ne0 (by omega) (by omega)
    obtain ⟨s, s1, s2, s3, s4, s5, s6⟩ := (f.inv hI).sees hC1
    have hz : ZP (tvC M1 59) := by rw [f.ct hI]; exact hT.2
    refine ⟨fun _ => ?_, fun z => absurd z nc⟩
    refine sp_takeOver (by omega) (fun j hj => by have := hz j hj; have e : (tvC M1 59).2.2 j = rd M1 (59 + 5) j := cut_lt hj; rw [e] at this; exact this) s5 (fun M2 tk => ?_)
    refine sp_payWhoCan (tk.co (by omega) hC1) (by omega) (fun M3 f3 => ?_)
    rw [tk.st (by omega), tk.tv, f.cs hI, f.ct hI]
    exact h M3 ((tk.fr (by omega)).tr (f3.fr (by omega))) (f3.2.trans tk.2.2.2.2.2.2.2.2.2.2)
  · have hM1 := (f.both hI hC hM).2
    refine sp_soundOf hM1 (fun M2 f2 => ?_)
    rw [f.st, f.tv, rns_4 (by omega)]
    exact h M2 f2.fr f2.2
theorem ob_sound' {n : Nat} {M : Mem} (hI : Inv n M) : OB (fun P M => wp_X11_sound P M) (fun P M => wp_X12_sound P M) M := by
  obtain ⟨a, b, c, d, hC, hM, hT⟩ := hI.both
  have hB := hC.2.2.2.2.1
  unfold BD at hB
  by_cases hc0 : c = 0
  · refine OB.one (-103) (fun M1 P f h => ?_) (fun M1 P f h => ?_)
    · have hC1 := (f.both hI hC hM).1
      exact ⟨fun z => absurd (by rw [hC1.2.2.1, hc0]; rfl) z, fun _ => h⟩
    · have hM1 := (f.both hI hC hM).2
      unfold wp_X12_sound
      rw [eq_lacks, if_pos (by rw [hM1.2.2.1, hc0]; rfl)]
      exact ⟨fun z => absurd z (by decide), fun _ => h⟩
  · refine (ob_sound hI hC hM hT hc0).mdl (fun M1 P f h => ?_)
    have hM1 := (f.both hI hC hM).2
    unfold wp_X12_sound
    rw [eq_lacks, if_neg (by rw [hM1.2.2.1]; exact nI_ne0 (by omega) (by omega))]
    exact ⟨fun _ => h, fun z => absurd rfl z⟩
