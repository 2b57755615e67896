/-! ===== how likely one is met: numbers ===== -/
def FJ (lo hi : Nat) (M M' : Mem) : Prop := (∀ q, ¬ (lo ≤ q ∧ q ≤ hi) → ∀ j, rd M' q j = rd M q j) ∧ M'.2 = M.2
theorem FJ.rf (lo hi : Nat) (M : Mem) : FJ lo hi M M := ⟨fun _ _ _ => rfl, rfl⟩
theorem FJ.tr {lo hi : Nat} {M N K : Mem} (f : FJ lo hi M N) (g : FJ lo hi N K) : FJ lo hi M K := ⟨fun q h j => (g.1 q h j).trans (f.1 q h j), g.2.trans f.2⟩
theorem FQ.fj {q0 lo hi : Nat} {M M' : Mem} (f : FQ q0 M M') (h1 : lo ≤ q0) (h2 : q0 ≤ hi) : FJ lo hi M M' := ⟨fun q h j => f.1 q (by omega) j, f.2⟩
theorem FJ.wr {lo hi q k : Nat} {M : Mem} {v : Int32} (h1 : lo ≤ q) (h2 : q ≤ hi) : FJ lo hi M (wr M q k v) := FQ.wr.fj h1 h2
theorem FJ.stC {lo hi o : Nat} {M M' : Mem} (f : FJ lo hi M M') (h1 : 15 ≤ lo) (h2 : hi < o) : stC M' o = stC M o := stC_of (fun q hq j => f.1 q (by omega) j)
theorem FJ.tvC {lo hi o : Nat} {M M' : Mem} (f : FJ lo hi M M') (h2 : hi < o) : tvC M' o = tvC M o := tvC_of (fun q hq j => f.1 q (by omega) j)
theorem FJ.co {lo hi o a b c d : Nat} {M M' : Mem} (f : FJ lo hi M M') (h1 : 15 ≤ lo) (h2 : hi < o) (h : CO M o a b c d) : CO M' o a b c d := by
  unfold CO at h ⊢
  have e := f.1 3 (by omega)
  rw [e, e, e, e, f.stC h1 h2]
  exact h
theorem FJ.stM {lo hi : Nat} {M M' : Mem} (f : FJ lo hi M M') (h : 43 ≤ lo) : stM M' = stM M := st_of (fun q hq j => f.1 q (by omega) j)
theorem FJ.tvM {lo hi : Nat} {M M' : Mem} (f : FJ lo hi M M') (h : 43 ≤ lo) : tvM M' = tvM M := tv_ext (cut_ext fun j _ => f.1 35 (by omega) j) (cut_ext fun j _ => f.1 36 (by omega) j) (cut_ext fun j _ => f.1 42 (by omega) j)
theorem FJ.mo {lo hi a b c d : Nat} {M M' : Mem} (f : FJ lo hi M M') (h : 43 ≤ lo) (g : MO M a b c d) : MO M' a b c d := by
  unfold MO at g ⊢
  have e := f.1 29 (by omega)
  rw [e, e, e, e, f.stM h]
  exact g
theorem FJ.fr {lo hi : Nat} {M M' : Mem} (f : FJ lo hi M M') (h : 15 ≤ lo ∧ hi ≤ 28 ∨ 43 ≤ lo ∧ hi ≤ 51 ∨ 75 ≤ lo) : Fr M M' := ⟨fun q hq j => by unfold core at hq; exact f.1 q (by omega) j, f.1 1 (by omega) 1, fun k _ => f.1 29 (by omega) k⟩
def cnN (g : Nat → Bool) : Nat → Nat
  | 0 => 0
  | n + 1 => if g n = true then cnN g n + 1 else cnN g n
theorem cn_le (g : Nat → Bool) : ∀ n, cnN g n ≤ n := by
  intro n
  induction n with
  | zero => exact Nat.le_refl _
  | succ n ih =>
    rw [cnN]
    by_cases h : g n = true
    · rw [if_pos h]; omega
    · rw [if_neg h]; omega
theorem cn_0 {g : Nat → Bool} : ∀ n, cnN g n = 0 → ∀ k, k < n → ¬ g k = true := by
  intro n
  induction n with
  | zero => intro _ k hk; omega
  | succ n ih =>
    intro h k hk z
    rw [cnN] at h
    by_cases e : g n = true
    · rw [if_pos e] at h; omega
    · rw [if_neg e] at h
      by_cases ek : k = n
      · exact e (ek ▸ z)
      · exact ih h k (by omega) z
def adN (y : Nat → Nat) (i v : Nat) : Nat → Nat := fun j => if j = i then y j + v else y j
def spD (H : Nat → Nat → Int32) (p r v : Nat) (y : Nat → Nat) : Nat → Nat → Nat
  | 0 => y
  | k + 1 => if goB H p k (nI r) = true then adN (spD H p r v y k) (byH H k (nI r)).toNatClampNeg v else spD H p r v y k
def wyN (H : Nat → Nat → Int32) (p b r : Nat) : Nat := cnN (fun k => goB H p k (nI r)) b
def spR (H : Nat → Nat → Int32) (p b : Nat) (x : Nat → Nat) (r : Nat) (y : Nat → Nat) : Nat → Nat := if wyN H p b r = 0 then adN y r (60 * x r) else spD H p r (60 / wyN H p b r * x r) y b
def spU (H : Nat → Nat → Int32) (p b : Nat) (x : Nat → Nat) : Nat → Nat → Nat
  | 0 => fun _ => 0
  | r + 1 => spR H p b x r (spU H p b x r)
def smN (f : Nat → Nat) : Nat → Nat
  | 0 => 0
  | n + 1 => smN f n + f n
theorem sm_cg {f g : Nat → Nat} : ∀ {n : Nat}, (∀ j, j < n → f j = g j) → smN f n = smN g n := by
  intro n
  induction n with
  | zero => intro _; rfl
  | succ n ih => intro h; rw [smN, smN, ih (fun j hj => h j (by omega)), h n (by omega)]
theorem sm_le {f : Nat → Nat} : ∀ {n j : Nat}, j < n → f j ≤ smN f n := by
  intro n
  induction n with
  | zero => intro j h; omega
  | succ n ih =>
    intro j h
    rw [smN]
    by_cases e : j = n
    · subst e; omega
    · have := ih (show j < n by omega); omega
theorem sm_mono {f : Nat → Nat} {i : Nat} : ∀ {n : Nat}, i ≤ n → smN f i ≤ smN f n := by
  intro n
  induction n with
  | zero => intro h; have : i = 0 := by omega
            subst this; exact Nat.le_refl _
  | succ n ih =>
    intro h
    by_cases e : i = n + 1
    · subst e; exact Nat.le_refl _
    · have := ih (by omega)
      rw [smN]; omega
theorem sm_ad {y : Nat → Nat} {i v : Nat} : ∀ {n : Nat}, i < n → smN (adN y i v) n = smN y n + v := by
  intro n
  induction n with
  | zero => intro h; omega
  | succ n ih =>
    intro h
    rw [smN, smN]
    by_cases e : i = n
    · subst e
      have e1 : smN (adN y i v) i = smN y i := sm_cg (fun j hj => if_neg (by omega))
      have e2 : adN y i v i = y i + v := if_pos rfl
      rw [e1, e2]; omega
    · have e2 : adN y i v n = y n := if_neg (by omega)
      rw [ih (by omega), e2]; omega
theorem sm_cut {y : Nat → Nat} {t : Nat} : ∀ {n : Nat}, t < n → smN (fun j => if j = t then 0 else y j) n + y t = smN y n := by
  intro n
  induction n with
  | zero => intro h; omega
  | succ n ih =>
    intro h
    rw [smN, smN]
    by_cases e : t = n
    · subst e
      have e1 : smN (fun j => if j = t then 0 else y j) t = smN y t := sm_cg (fun j hj => if_neg (by omega))
      rw [e1, if_pos rfl]; omega
    · have := ih (by omega)
      rw [if_neg (by omega)]; omega
theorem sm_out {x : Nat → Nat} {a : Nat} (h : ∀ j, a ≤ j → x j = 0) : ∀ {n : Nat}, a ≤ n → smN x n = smN x a := by
  intro n
  induction n with
  | zero => intro h2; have : a = 0 := by omega
            subst this; rfl
  | succ n ih =>
    intro h2
    by_cases e : a = n + 1
    · subst e; rfl
    · rw [smN, h n (by omega), ih (by omega)]; rfl
theorem sm_spD {H : Nat → Nat → Int32} {a b c d p r v : Nat} {y : Nat → Nat} (hB : BD a b c d) (hH : HOK H a b c d) : ∀ n, n ≤ b → smN (spD H p r v y n) 6 = smN y 6 + cnN (fun k => goB H p k (nI r)) n * v := by
  unfold BD at hB
  intro n
  induction n with
  | zero => intro _; rw [cnN]; simp [spD]
  | succ n ih =>
    intro hn
    have ih := ih (by omega)
    rw [spD, cnN]
    by_cases g : goB H p n (nI r) = true
    · obtain ⟨z, hz, ez⟩ := by_lt (r := nI r) hH (show n < b by omega)
      rw [if_pos g, if_pos g, sm_ad (by rw [ez, cl4 (by omega)]; omega), ih, Nat.add_mul]; omega
    · rw [if_neg g, if_neg g, ih]
theorem w60 {w : Nat} (h1 : ¬ w = 0) (h2 : w ≤ 6) : w * (60 / w) = 60 := by
  rcases (by omega : w = 1 ∨ w = 2 ∨ w = 3 ∨ w = 4 ∨ w = 5 ∨ w = 6) with rfl | rfl | rfl | rfl | rfl | rfl <;> rfl
theorem sm_spR {H : Nat → Nat → Int32} {a b c d p r : Nat} {x y : Nat → Nat} (hB : BD a b c d) (hH : HOK H a b c d) (hr : r < 6) : smN (spR H p b x r y) 6 = smN y 6 + 60 * x r := by
  have hB2 := hB
  unfold BD at hB
  unfold spR
  by_cases e : wyN H p b r = 0
  · rw [if_pos e, sm_ad hr]
  · rw [if_neg e, sm_spD hB2 hH b (Nat.le_refl _)]
    have l : wyN H p b r ≤ 6 := Nat.le_trans (cn_le _ b) (by omega)
    have := w60 e l
    show smN y 6 + wyN H p b r * (60 / wyN H p b r * x r) = _
    rw [← Nat.mul_assoc, this]
theorem sm_spU {H : Nat → Nat → Int32} {a b c d p : Nat} {x : Nat → Nat} (hB : BD a b c d) (hH : HOK H a b c d) : ∀ n, n ≤ 6 → smN (spU H p b x n) 6 = 60 * smN x n := by
  intro n
  induction n with
  | zero => intro _; rfl
  | succ n ih => intro hn; rw [spU, sm_spR hB hH (by omega), ih (by omega), smN, Nat.mul_add]
theorem out_spD {H : Nat → Nat → Int32} {a b c d p r v : Nat} {y : Nat → Nat} (hB : BD a b c d) (hH : HOK H a b c d) (hy : ∀ j, a ≤ j → y j = 0) : ∀ n, n ≤ b → ∀ j, a ≤ j → spD H p r v y n j = 0 := by
  unfold BD at hB
  intro n
  induction n with
  | zero => intro _; exact hy
  | succ n ih =>
    intro hn j hj
    have ih := ih (by omega)
    rw [spD]
    by_cases g : goB H p n (nI r) = true
    · obtain ⟨z, hz, ez⟩ := by_lt (r := nI r) hH (show n < b by omega)
      rw [if_pos g]
      unfold adN
      rw [if_neg (by rw [ez, cl4 (by omega)]; omega)]
      exact ih j hj
    · rw [if_neg g]; exact ih j hj
theorem out_spU {H : Nat → Nat → Int32} {a b c d p : Nat} {x : Nat → Nat} (hB : BD a b c d) (hH : HOK H a b c d) : ∀ n, n ≤ a → ∀ j, a ≤ j → spU H p b x n j = 0 := by
  intro n
  induction n with
  | zero => intro _ j _; rfl
  | succ n ih =>
    intro hn j hj
    rw [spU]
    unfold spR
    by_cases e : wyN H p b n = 0
    · rw [if_pos e]
      unfold adN
      rw [if_neg (by omega)]
      exact ih (by omega) j hj
    · rw [if_neg e]
      exact out_spD hB hH (ih (by omega)) b (Nat.le_refl _) j hj
def mtN (H : Nat → Nat → Int32) (p a b s t : Nat) : Nat → Nat → Nat
  | 0 => fun j => if j = s ∧ ¬ j = t then 1 else 0
  | h + 1 => fun j => if j = t then 0 else spU H p b (mtN H p a b s t h) a j
theorem mt_out {H : Nat → Nat → Int32} {a b c d p s t : Nat} (hB : BD a b c d) (hH : HOK H a b c d) (hs : s < a) : ∀ n j, a ≤ j → mtN H p a b s t n j = 0 := by
  intro n j hj
  cases n with
  | zero => exact if_neg (by omega)
  | succ n =>
    show (if j = t then 0 else spU H p b (mtN H p a b s t n) a j) = 0
    rw [out_spU hB hH a (Nat.le_refl _) j hj]
    by_cases e : j = t
    · rw [if_pos e]
    · rw [if_neg e]
theorem mt_mass {H : Nat → Nat → Int32} {a b c d p s t : Nat} (hB : BD a b c d) (hH : HOK H a b c d) (hs : s < a) (ht : t < a) (n : Nat) : smN (mtN H p a b s t (n + 1)) 6 + spU H p b (mtN H p a b s t n) a t = 60 * smN (mtN H p a b s t n) 6 := by
  have hB2 := hB
  unfold BD at hB
  have e1 := sm_cut (y := spU H p b (mtN H p a b s t n) a) (t := t) (n := 6) (by omega)
  have e2 := sm_spU (p := p) (x := mtN H p a b s t n) hB2 hH a (by omega)
  have e3 := sm_out (mt_out (p := p) (t := t) hB2 hH hs n) (n := 6) (by omega)
  rw [e3, ← e2, ← e1]
  rfl
def scN : Nat → Nat
  | 0 => 216000
  | 1 => 3600
  | 2 => 60
  | _ => 1
def alN : Nat → Nat
  | 0 => 1
  | 1 => 60
  | 2 => 3600
  | _ => 216000
theorem mt_le {H : Nat → Nat → Int32} {a b c d p s t : Nat} (hB : BD a b c d) (hH : HOK H a b c d) (hs : s < a) (ht : t < a) : ∀ n, n ≤ 3 → smN (mtN H p a b s t n) 6 ≤ alN n := by
  have hB2 := hB
  unfold BD at hB
  have m := fun n => mt_mass (p := p) hB2 hH hs ht n
  have h0 : smN (mtN H p a b s t 0) 6 ≤ 1 := by
    have e : smN (mtN H p a b s t 0) 6 ≤ smN (adN (fun _ => 0) s 1) 6 := by
      have : ∀ n, smN (mtN H p a b s t 0) n ≤ smN (adN (fun _ => 0) s 1) n := by
        intro n
        induction n with
        | zero => exact Nat.le_refl _
        | succ n ih =>
          rw [smN, smN]
          have : mtN H p a b s t 0 n ≤ adN (fun _ => 0) s 1 n := by
            show (if n = s ∧ ¬ n = t then 1 else 0) ≤ (if n = s then 0 + 1 else 0)
            by_cases e1 : n = s
            · rw [if_pos e1]
              by_cases e2 : n = t
              · rw [if_neg (fun z => z.2 e2)]; omega
              · rw [if_pos ⟨e1, e2⟩]; omega
            · rw [if_neg e1, if_neg (fun z => e1 z.1)]; omega
          omega
      exact this 6
    rw [sm_ad (by omega)] at e
    exact e
  have m0 : smN (mtN H p a b s t 1) 6 + spU H p b (mtN H p a b s t 0) a t = 60 * smN (mtN H p a b s t 0) 6 := m 0
  have m1 : smN (mtN H p a b s t 2) 6 + spU H p b (mtN H p a b s t 1) a t = 60 * smN (mtN H p a b s t 1) 6 := m 1
  have m2 : smN (mtN H p a b s t 3) 6 + spU H p b (mtN H p a b s t 2) a t = 60 * smN (mtN H p a b s t 2) 6 := m 2
  intro n hn
  rcases (by omega : n = 0 ∨ n = 1 ∨ n = 2 ∨ n = 3) with rfl | rfl | rfl | rfl
  · exact h0
  · show _ ≤ 60; omega
  · show _ ≤ 3600; omega
  · show _ ≤ 216000; omega
theorem mt_same {H : Nat → Nat → Int32} {a b c d p s : Nat} (hB : BD a b c d) (hH : HOK H a b c d) (hs : s < a) : ∀ n, smN (mtN H p a b s s n) 6 = 0 := by
  intro n
  induction n with
  | zero =>
    have : ∀ n, smN (mtN H p a b s s 0) n = 0 := by
      intro n
      induction n with
      | zero => rfl
      | succ n ih =>
        rw [smN, ih]
        show 0 + (if n = s ∧ ¬ n = s then 1 else 0) = 0
        rw [if_neg (fun z => z.2 z.1)]
    exact this 6
  | succ n ih =>
    have := mt_mass (p := p) hB hH hs hs n
    rw [ih] at this
    omega
theorem mt_one {H : Nat → Nat → Int32} {p a b s t : Nat} (hs : s < 6) (hst : ¬ s = t) : smN (mtN H p a b s t 0) 6 = 1 := by
  have e : smN (mtN H p a b s t 0) 6 = smN (adN (fun _ => 0) s 1) 6 := sm_cg (fun j _ => by
    show (if j = s ∧ ¬ j = t then 1 else 0) = (if j = s then 0 + 1 else 0)
    by_cases e1 : j = s
    · rw [if_pos e1, if_pos ⟨e1, fun z => hst (e1.symm.trans z)⟩]
    · rw [if_neg e1, if_neg (fun z => e1 z.1)])
  rw [e, sm_ad hs]; rfl
def upN (H : Nat → Nat → Int32) (p a b s t n : Nat) : Nat := alN n - smN (mtN H p a b s t n) 6
theorem up_next {H : Nat → Nat → Int32} {a b c d p s t : Nat} (hB : BD a b c d) (hH : HOK H a b c d) (hs : s < a) (ht : t < a) {i : Nat} (hi : i < 3) : scN (i + 1) * upN H p a b s t (i + 1) = scN i * upN H p a b s t i + scN (i + 1) * spU H p b (mtN H p a b s t i) a t := by
  have m := mt_mass (p := p) hB hH hs ht i
  have l1 := mt_le (p := p) hB hH hs ht i (by omega)
  have l2 := mt_le (p := p) hB hH hs ht (i + 1) (by omega)
  unfold upN
  generalize smN (mtN H p a b s t i) 6 = S at m l1 ⊢
  generalize smN (mtN H p a b s t (i + 1)) 6 = S' at m l2 ⊢
  generalize spU H p b (mtN H p a b s t i) a t = Y at m ⊢
  rcases (by omega : i = 0 ∨ i = 1 ∨ i = 2) with rfl | rfl | rfl
  · show 3600 * (60 - S') = 216000 * (1 - S) + 3600 * Y
    have l1 : S ≤ 1 := l1
    have l2 : S' ≤ 60 := l2
    omega
  · show 60 * (3600 - S') = 3600 * (60 - S) + 60 * Y
    have l1 : S ≤ 60 := l1
    have l2 : S' ≤ 3600 := l2
    omega
  · show 1 * (216000 - S') = 60 * (3600 - S) + 1 * Y
    have l1 : S ≤ 3600 := l1
    have l2 : S' ≤ 216000 := l2
    omega
theorem sc_s {i : Nat} (h : i < 3) : scN i = 60 * scN (i + 1) := by
  rcases (by omega : i = 0 ∨ i = 1 ∨ i = 2) with rfl | rfl | rfl <;> rfl
theorem al_s {i : Nat} (h : i < 3) : alN (i + 1) = alN i * 60 := by
  rcases (by omega : i = 0 ∨ i = 1 ∨ i = 2) with rfl | rfl | rfl <;> rfl
theorem sc_al {i : Nat} (h : i ≤ 3) : scN i * alN i = 216000 := by
  rcases (by omega : i = 0 ∨ i = 1 ∨ i = 2 ∨ i = 3) with rfl | rfl | rfl | rfl <;> rfl
theorem sc_pos {i : Nat} (h : i ≤ 3) : 0 < scN i := by
  rcases (by omega : i = 0 ∨ i = 1 ∨ i = 2 ∨ i = 3) with rfl | rfl | rfl | rfl <;> decide
theorem al_pos {i : Nat} (h : i ≤ 3) : 0 < alN i ∧ alN i ≤ 216000 := by
  rcases (by omega : i = 0 ∨ i = 1 ∨ i = 2 ∨ i = 3) with rfl | rfl | rfl | rfl <;> decide
theorem mt_lt {H : Nat → Nat → Int32} {a b c d p s t : Nat} (hB : BD a b c d) (hH : HOK H a b c d) (hs : s < a) (ht : t < a) {i j : Nat} (hi : i ≤ 3) (hj : j < 6) : scN i * mtN H p a b s t i j ≤ 216000 := by
  have l1 := mt_le (p := p) hB hH hs ht i hi
  have l2 := sm_le (f := mtN H p a b s t i) hj
  rw [← sc_al hi]
  exact Nat.mul_le_mul_left _ (Nat.le_trans l2 l1)
theorem dv60 {u x w : Nat} (h1 : ¬ w = 0) (h2 : w ≤ 6) : 60 * u * x / w = u * (60 / w * x) := by
  have e : 60 * u * x = w * (u * (60 / w * x)) := by
    have := w60 h1 h2
    calc 60 * u * x = (w * (60 / w)) * u * x := by rw [this]
      _ = w * (u * (60 / w * x)) := by ac_rfl
  rw [e, Nat.mul_div_cancel_left _ (by omega)]
