/-! ===== rings of debts: numbers ===== -/
def iI (z : Int) : Int32 := Int32.ofInt z
theorem iI_n (n : Nat) : iI n = nI n := Int32.ofInt_eq_ofNat
theorem iI_t {z : Int} (h1 : -1000 ≤ z) (h2 : z ≤ 1000) : (iI z).toInt = z := Int32.toInt_ofInt_of_le (by omega) (by omega)
theorem iI_add (a b : Int) : iI a + iI b = iI (a + b) := (Int32.ofInt_add a b).symm
theorem iI_sub (a b : Int) : iI a - iI b = iI (a - b) := (Int32.ofInt_sub a b).symm
theorem iI_neg (a : Int) : -iI a = iI (-a) := (Int32.ofInt_neg a).symm
theorem iI_lt {a b : Int} (a1 : -1000 ≤ a) (a2 : a ≤ 1000) (b1 : -1000 ≤ b) (b2 : b ≤ 1000) : iI a < iI b ↔ a < b := by rw [Int32.lt_iff_toInt_lt, iI_t a1 a2, iI_t b1 b2]
theorem iI_eq {a b : Int} (a1 : -1000 ≤ a) (a2 : a ≤ 1000) (b1 : -1000 ≤ b) (b2 : b ≤ 1000) : iI a = iI b ↔ a = b := by rw [← Int32.toInt_inj, iI_t a1 a2, iI_t b1 b2]
theorem iI_max {a b : Int} (a1 : -1000 ≤ a) (a2 : a ≤ 1000) (b1 : -1000 ≤ b) (b2 : b ≤ 1000) : (if iI a < iI b then iI b else iI a) = iI (max a b) := by
  have e := iI_lt a1 a2 b1 b2
  by_cases h : a < b
  · rw [if_pos (e.mpr h), Int.max_eq_right (by omega)]
  · rw [if_neg (fun z => h (e.mp z)), Int.max_eq_left (by omega)]
theorem iI_min {a b : Int} (a1 : -1000 ≤ a) (a2 : a ≤ 1000) (b1 : -1000 ≤ b) (b2 : b ≤ 1000) : (if iI a < iI b then iI a else iI b) = iI (min a b) := by
  have e := iI_lt a1 a2 b1 b2
  by_cases h : a < b
  · rw [if_pos (e.mpr h), Int.min_eq_left (by omega)]
  · rw [if_neg (fun z => h (e.mp z)), Int.min_eq_right (by omega)]
def ups (l : Nat → Nat) (k v : Nat) : Nat → Nat := fun j => if j = k then v else l j
theorem ups_s {l : Nat → Nat} {k v : Nat} : ups l k v k = v := if_pos rfl
theorem ups_n {l : Nat → Nat} {k v j : Nat} (h : j ≠ k) : ups l k v j = l j := if_neg h
def unL (w h : Nat → Nat) (io : Nat → Bool) (l : Nat → Nat) : Nat → Nat → Int
  | 0, _ => 0
  | n + 1, p => unL w h io l n p + (if io n = true ∧ w n = p then (l n : Int) else 0) - (if io n = true ∧ h n = p then (l n : Int) else 0)
def lsT (w h : Nat → Nat) (io : Nat → Bool) : Nat → Nat → Int32
  | 0, _ => -1
  | n + 1, p => if io n = true ∧ (w n = p ∨ h n = p) then nI n else lsT w h io n p
def fL (w h : Nat → Nat) (io : Nat → Bool) (l : Nat → Nat) : Int32 := if unL w h io l 4 0 = 0 ∧ unL w h io l 4 1 = 0 ∧ unL w h io l 4 2 = 0 ∧ unL w h io l 4 3 = 0 then nI (smN l 4) else -1
abbrev LST := Int32 × (Nat → Nat)
def kpL (v : Int32) (l : Nat → Nat) (S : LST) : LST := if v ≤ S.1 then S else (v, l)
def fdF (g : Nat → LST → LST) : Nat → Nat → LST → LST
  | _, 0, S => S
  | v, m + 1, S => fdF g (v + 1) m (g v S)
def lsF (w h : Nat → Nat) (io : Nat → Bool) (tp : Nat → Nat) : Nat → (Nat → Nat) → LST → LST
  | 0, l, S => kpL (fL w h io l) l S
  | n + 1, l, S => fdF (fun v U => lsF w h io tp n (ups l (3 - n) v) U) 0 (tp (3 - n) + 1) S
def okL (w h : Nat → Nat) (io : Nat → Bool) (l : Nat → Nat) (k v : Nat) : Bool := decide ((lsT w h io 4 (w k) = nI k → unL w h io l k (w k) + (v : Int) = 0) ∧ (lsT w h io 4 (h k) = nI k → unL w h io l k (h k) - (v : Int) = 0))
def clF (w h : Nat → Nat) (io : Nat → Bool) (tp : Nat → Nat) : Nat → (Nat → Nat) → LST → LST
  | 0, l, S => kpL (nI (smN l 4)) l S
  | n + 1, l, S => if io (3 - n) = true then fdF (fun v U => if okL w h io l (3 - n) v = true then clF w h io tp n (ups l (3 - n) v) U else U) 0 (tp (3 - n) + 1) S else clF w h io tp n (ups l (3 - n) 0) S
theorem kpL_ge {v b : Int32} {l : Nat → Nat} {S : LST} (h : b ≤ S.1) : b ≤ (kpL v l S).1 := by
  unfold kpL
  by_cases e : v ≤ S.1
  · rw [if_pos e]; exact h
  · rw [if_neg e]
    have h1 := Int32.le_iff_toInt_le.mp h
    have h2 : ¬ v.toInt ≤ S.1.toInt := fun z => e (Int32.le_iff_toInt_le.mpr z)
    show b ≤ v
    exact Int32.le_iff_toInt_le.mpr (by omega)
theorem fdF_ge {g : Nat → LST → LST} {b : Int32} (hg : ∀ v U, b ≤ U.1 → b ≤ (g v U).1) : ∀ m v S, b ≤ S.1 → b ≤ (fdF g v m S).1 := by
  intro m
  induction m with
  | zero => intro v S h; exact h
  | succ m ih => intro v S h; rw [fdF]; exact ih (v + 1) _ (hg v S h)
theorem fdF_id {g : Nat → LST → LST} {S : LST} (hg : ∀ v, g v S = S) : ∀ m v, fdF g v m S = S := by
  intro m
  induction m with
  | zero => intro v; rfl
  | succ m ih => intro v; rw [fdF, hg v]; exact ih (v + 1)
theorem fdF_cg {g g' : Nat → LST → LST} {b : Int32} (hg : ∀ v U, b ≤ U.1 → g v U = g' v U ∧ b ≤ (g v U).1) : ∀ m v S, b ≤ S.1 → fdF g v m S = fdF g' v m S := by
  intro m
  induction m with
  | zero => intro v S h; rfl
  | succ m ih =>
    intro v S h
    have := hg v S h
    rw [fdF, fdF, ← this.1]
    exact ih (v + 1) _ this.2
theorem fdF_add {g : Nat → LST → LST} {n : Nat} : ∀ m v S, fdF g v (m + n) S = fdF g (v + m) n (fdF g v m S) := by
  intro m
  induction m with
  | zero => intro v S; rw [Nat.zero_add]; rfl
  | succ m ih =>
    intro v S
    rw [show m + 1 + n = (m + n) + 1 by omega, fdF, fdF, ih, show v + 1 + m = v + (m + 1) by omega]
theorem fdF_no {g : Nat → LST → LST} : ∀ m v S, (∀ u U, v ≤ u → u < v + m → g u U = U) → fdF g v m S = S := by
  intro m
  induction m with
  | zero => intro v S _; rfl
  | succ m ih =>
    intro v S h
    rw [fdF, h v S (Nat.le_refl _) (by omega)]
    exact ih (v + 1) S (fun u U h1 h2 => h u U (by omega) (by omega))
theorem ls_ge {w h : Nat → Nat} {io : Nat → Bool} {tp : Nat → Nat} {b : Int32} : ∀ n l S, b ≤ S.1 → b ≤ (lsF w h io tp n l S).1 := by
  intro n
  induction n with
  | zero => intro l S hb; rw [lsF]; exact kpL_ge hb
  | succ n ih => intro l S hb; rw [lsF]; exact fdF_ge (fun v U hU => ih _ U hU) _ _ _ hb
theorem un_cg {w h : Nat → Nat} {io : Nat → Bool} {l l' : Nat → Nat} {p : Nat} : ∀ n, (∀ j, j < n → l j = l' j) → unL w h io l n p = unL w h io l' n p := by
  intro n
  induction n with
  | zero => intro _; rfl
  | succ n ih => intro e; rw [unL, unL, ih (fun j hj => e j (by omega)), e n (by omega)]
theorem un_ups {w h : Nat → Nat} {io : Nat → Bool} {l : Nat → Nat} {k v p : Nat} : unL w h io (ups l k v) k p = unL w h io l k p := un_cg k (fun j hj => ups_n (by omega))
theorem un_st {w h : Nat → Nat} {io : Nat → Bool} {l : Nat → Nat} {k v p : Nat} : unL w h io (ups l k v) (k + 1) p = unL w h io l k p + (if io k = true ∧ w k = p then (v : Int) else 0) - (if io k = true ∧ h k = p then (v : Int) else 0) := by
  rw [unL, un_ups, ups_s]
theorem un_no {w h : Nat → Nat} {io : Nat → Bool} {l : Nat → Nat} {k p : Nat} : ∀ n, k ≤ n → (∀ i, k ≤ i → i < n → ¬ (io i = true ∧ (w i = p ∨ h i = p))) → unL w h io l n p = unL w h io l k p := by
  intro n
  induction n with
  | zero => intro hk _; have : k = 0 := by omega
            subst this; rfl
  | succ n ih =>
    intro hk hn
    by_cases e : k = n + 1
    · subst e; rfl
    · have x := hn n (by omega) (by omega)
      rw [unL, ih (by omega) (fun i h1 h2 => hn i h1 (by omega)), if_neg (fun z => x ⟨z.1, Or.inl z.2⟩), if_neg (fun z => x ⟨z.1, Or.inr z.2⟩)]
      omega
theorem ls_of {w h : Nat → Nat} {io : Nat → Bool} {p : Nat} : ∀ n, (lsT w h io n p = -1 ∧ ∀ j, j < n → ¬ (io j = true ∧ (w j = p ∨ h j = p))) ∨ ∃ j, j < n ∧ lsT w h io n p = nI j ∧ io j = true ∧ (w j = p ∨ h j = p) ∧ ∀ i, j < i → i < n → ¬ (io i = true ∧ (w i = p ∨ h i = p)) := by
  intro n
  induction n with
  | zero => exact Or.inl ⟨rfl, fun j hj => absurd hj (Nat.not_lt_zero _)⟩
  | succ n ih =>
    rw [lsT]
    by_cases e : io n = true ∧ (w n = p ∨ h n = p)
    · rw [if_pos e]
      exact Or.inr ⟨n, by omega, rfl, e.1, e.2, fun i h1 h2 => by omega⟩
    · rw [if_neg e]
      rcases ih with ⟨e1, e2⟩ | ⟨j, hj, e1, e2, e3, e4⟩
      · refine Or.inl ⟨e1, fun j hj => ?_⟩
        by_cases ej : j = n
        · rw [ej]; exact e
        · exact e2 j (by omega)
      · refine Or.inr ⟨j, by omega, e1, e2, e3, fun i h1 h2 => ?_⟩
        by_cases ei : i = n
        · rw [ei]; exact e
        · exact e4 i h1 (by omega)
theorem ls_at {w h : Nat → Nat} {io : Nat → Bool} {p j : Nat} (hj : j < 4) (e : lsT w h io 4 p = nI j) : io j = true ∧ (w j = p ∨ h j = p) ∧ ∀ i, j < i → i < 4 → ¬ (io i = true ∧ (w i = p ∨ h i = p)) := by
  rcases ls_of (w := w) (h := h) (io := io) (p := p) 4 with ⟨e1, e2⟩ | ⟨i, hi, e1, e2, e3, e4⟩
  · exact absurd (e.symm.trans e1) (nI_nm1 (by omega))
  · have : i = j := (nI_eq (by omega) (by omega)).mp (e1.symm.trans e)
    subst this
    exact ⟨e2, e3, e4⟩
def deadL (w h : Nat → Nat) (io : Nat → Bool) (k : Nat) (l : Nat → Nat) : Prop := ∃ p, p < 4 ∧ ∃ j, j < k ∧ lsT w h io 4 p = nI j ∧ ¬ unL w h io l k p = 0
theorem ls_dead {w h : Nat → Nat} {io : Nat → Bool} {tp : Nat → Nat} : ∀ n l S, n ≤ 4 → deadL w h io (4 - n) l → -1 ≤ S.1 → lsF w h io tp n l S = S := by
  intro n
  induction n with
  | zero =>
    intro l S _ hd hS
    obtain ⟨p, hp, j, hj, e1, e2⟩ := hd
    have e2 : ¬ unL w h io l 4 p = 0 := e2
    rw [lsF]
    unfold fL
    rw [if_neg]
    · unfold kpL; rw [if_pos hS]
    · intro z
      rcases (by omega : p = 0 ∨ p = 1 ∨ p = 2 ∨ p = 3) with rfl | rfl | rfl | rfl
      · exact e2 z.1
      · exact e2 z.2.1
      · exact e2 z.2.2.1
      · exact e2 z.2.2.2
  | succ n ih =>
    intro l S hn hd hS
    rw [lsF]
    refine fdF_id (fun v => ih _ S (by omega) ?_ hS) _ _
    obtain ⟨p, hp, j, hj, e1, e2⟩ := hd
    rw [show 4 - (n + 1) = 3 - n by omega] at hj e2
    refine ⟨p, hp, j, by omega, e1, ?_⟩
    obtain ⟨-, -, no⟩ := ls_at (by omega) e1
    have no := no (3 - n) hj (by omega)
    rw [show 4 - n = 3 - n + 1 by omega, un_st, if_neg (fun z => no ⟨z.1, Or.inl z.2⟩), if_neg (fun z => no ⟨z.1, Or.inr z.2⟩)]
    omega
def goodL (w h : Nat → Nat) (io : Nat → Bool) (k : Nat) (l : Nat → Nat) : Prop := ∀ p, p < 4 → ∀ j, j < k → lsT w h io 4 p = nI j → unL w h io l k p = 0
theorem ls_cl {w h : Nat → Nat} {io : Nat → Bool} {tp : Nat → Nat} (hio : ∀ k, k < 4 → io k = true → w k < 4 ∧ h k < 4 ∧ w k ≠ h k) (htp : ∀ k, k < 4 → ¬ io k = true → tp k = 0) : ∀ n l S, n ≤ 4 → goodL w h io (4 - n) l → -1 ≤ S.1 → lsF w h io tp n l S = clF w h io tp n l S := by
  intro n
  induction n with
  | zero =>
    intro l S _ hg hS
    rw [lsF, clF]
    have all : ∀ p, p < 4 → unL w h io l 4 p = 0 := fun p hp => by
      rcases ls_of (w := w) (h := h) (io := io) (p := p) 4 with ⟨e1, e2⟩ | ⟨i, hi, e1, e2, e3, e4⟩
      · exact un_no (k := 0) 4 (by omega) (fun i _ hi => e2 i hi)
      · exact hg p hp i hi e1
    unfold fL
    rw [if_pos ⟨all 0 (by omega), all 1 (by omega), all 2 (by omega), all 3 (by omega)⟩]
  | succ n ih =>
    intro l S hn hg hS
    rw [lsF, clF]
    rw [show 4 - (n + 1) = 3 - n by omega] at hg
    have e4 : 4 - n = 3 - n + 1 := by omega
    rw [e4] at ih
    have hk : 3 - n < 4 := by omega
    have dd := fun l' U => ls_dead (w := w) (h := h) (io := io) (tp := tp) n l' U (by omega)
    rw [e4] at dd
    generalize 3 - n = k at *
    by_cases ik : io k = true
    · obtain ⟨w4, h4, wh⟩ := hio k hk ik
      rw [if_pos ik]
      refine fdF_cg (b := -1) (fun v U hU => ⟨?_, ls_ge _ _ _ hU⟩) _ _ _ hS
      by_cases ok : okL w h io l k v = true
      · rw [if_pos ok]
        refine ih _ U (by omega) (fun p hp j hj e => ?_) hU
        have ok := decide_eq_true_iff.mp ok
        rw [un_st]
        obtain ⟨a1, a2, a3⟩ := ls_at (by omega) e
        by_cases ej : j = k
        · subst ej
          rcases a2 with a2 | a2
          · subst a2
            rw [if_pos ⟨ik, rfl⟩, if_neg (fun z => wh z.2.symm)]
            have := ok.1 e
            omega
          · subst a2
            rw [if_neg (fun z => wh z.2), if_pos ⟨ik, rfl⟩]
            have := ok.2 e
            omega
        · have no := a3 k (by omega) hk
          rw [if_neg (fun z => no ⟨z.1, Or.inl z.2⟩), if_neg (fun z => no ⟨z.1, Or.inr z.2⟩), hg p hp j (by omega) e]
          rfl
      · rw [if_neg ok]
        refine dd _ U ?_ hU
        by_cases o1 : lsT w h io 4 (w k) = nI k → unL w h io l k (w k) + (v : Int) = 0
        · by_cases o2 : lsT w h io 4 (h k) = nI k → unL w h io l k (h k) - (v : Int) = 0
          · exact absurd (decide_eq_true_iff.mpr ⟨o1, o2⟩) ok
          · obtain ⟨b1, b2⟩ := Classical.not_imp.mp o2
            refine ⟨h k, h4, k, by omega, b1, ?_⟩
            rw [un_st, if_neg (fun z => wh z.2), if_pos ⟨ik, rfl⟩]
            omega
        · obtain ⟨b1, b2⟩ := Classical.not_imp.mp o1
          refine ⟨w k, w4, k, by omega, b1, ?_⟩
          rw [un_st, if_pos ⟨ik, rfl⟩, if_neg (fun z => wh z.2.symm)]
          omega
    · rw [if_neg ik, htp k hk ik]
      show lsF w h io tp n (ups l k 0) S = _
      refine ih _ S (by omega) (fun p hp j hj e => ?_) hS
      rw [un_st, if_neg (fun z => ik z.1), if_neg (fun z => ik z.1)]
      by_cases ej : j = k
      · subst ej
        exact absurd (ls_at hk e).1 ik
      · rw [hg p hp j (by omega) e]; rfl
theorem ls_zero {w h : Nat → Nat} {io : Nat → Bool} {tp : Nat → Nat} : ∀ n S, 0 ≤ (lsF w h io tp n (fun _ => 0) S).1 := by
  intro n
  induction n with
  | zero =>
    intro S
    rw [lsF]
    have un0 : ∀ k p, unL w h io (fun _ => 0) k p = 0 := by
      intro k p
      induction k with
      | zero => rfl
      | succ k ih =>
        rw [unL, ih]
        by_cases e1 : io k = true ∧ w k = p <;> by_cases e2 : io k = true ∧ h k = p
        · rw [if_pos e1, if_pos e2]; rfl
        · rw [if_pos e1, if_neg e2]; rfl
        · rw [if_neg e1, if_pos e2]; rfl
        · rw [if_neg e1, if_neg e2]; rfl
    unfold fL
    rw [if_pos ⟨un0 4 0, un0 4 1, un0 4 2, un0 4 3⟩]
    show (0 : Int32) ≤ (kpL (nI 0) (fun _ => 0) S).1
    unfold kpL
    by_cases e : nI 0 ≤ S.1
    · rw [if_pos e]; exact e
    · rw [if_neg e]; exact Int32.le_refl _
  | succ n ih =>
    intro S
    rw [lsF, fdF]
    refine fdF_ge (fun v U hU => ls_ge _ _ _ hU) _ _ _ ?_
    have e : ups (fun _ => 0) (3 - n) 0 = fun _ => 0 := funext fun j => by
      unfold ups
      by_cases z : j = 3 - n
      · rw [if_pos z]
      · rw [if_neg z]
    rw [e]
    exact ih S
theorem ge0_ne {S : LST} (h : 0 ≤ S.1) : ¬ S.1 = -1 := fun e => by
  rw [e] at h
  exact absurd h (by decide)
theorem un_bd {w h : Nat → Nat} {io : Nat → Bool} {l : Nat → Nat} {p : Nat} : ∀ n, (∀ j, j < n → l j ≤ 9) → -(9 * (n : Int)) ≤ unL w h io l n p ∧ unL w h io l n p ≤ 9 * (n : Int) := by
  intro n
  induction n with
  | zero => intro _; rw [unL]; omega
  | succ n ih =>
    intro hl
    have ih := ih (fun j hj => hl j (by omega))
    have ln := hl n (by omega)
    rw [unL]
    by_cases e1 : io n = true ∧ w n = p <;> by_cases e2 : io n = true ∧ h n = p
    · rw [if_pos e1, if_pos e2]; omega
    · rw [if_pos e1, if_neg e2]; omega
    · rw [if_neg e1, if_pos e2]; omega
    · rw [if_neg e1, if_neg e2]; omega
