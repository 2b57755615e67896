/-! ===== shortest ways ===== -/
def adjH (H : Nat → Nat → Int32) (a b p : Nat) (r s : Nat) : Prop := r < a ∧ s < a ∧ ∃ k, k < b ∧ pasB H p k = true ∧ (H 0 k = nI r ∧ H 1 k = nI s ∨ H 0 k = nI s ∧ H 1 k = nI r)
def wk (A : Nat → Nat → Prop) (t : Nat) : Nat → Nat → Prop
  | 0, r => r = t
  | n + 1, r => ∃ s, A r s ∧ wk A t n s
def MN (A : Nat → Nat → Prop) (t r : Nat) (v inf : Int32) : Prop := (∃ m, m < 99 ∧ v = nI m ∧ wk A t m r ∧ ∀ n, wk A t n r → m ≤ n) ∨ (v = inf ∧ ∀ n, ¬ wk A t n r)
theorem wk_lt {A : Nat → Nat → Prop} {a t : Nat} (hA : ∀ r s, A r s → r < a ∧ s < a) (ht : t < a) : ∀ n r, wk A t n r → r < a := by
  intro n r h
  cases n with
  | zero => rw [wk] at h; omega
  | succ n => obtain ⟨s, h1, h2⟩ := h; exact (hA r s h1).1
theorem wk_short {A : Nat → Nat → Prop} {a t : Nat} (hA : ∀ r s, A r s → r < a ∧ s < a) (ht : t < a) {n r : Nat} (h : wk A t n r) : ∃ m, m ≤ a - 1 ∧ wk A t m r := by
  have R1 : ∀ i q, (∃ m, m ≤ i + 1 ∧ wk A t m q) ↔ (∃ m, m ≤ i ∧ wk A t m q) ∨ ∃ s, A q s ∧ ∃ m, m ≤ i ∧ wk A t m s := by
    intro i q
    refine ⟨fun ⟨m, hm, hw⟩ => ?_, fun z => ?_⟩
    · cases m with
      | zero => exact Or.inl ⟨0, by omega, hw⟩
      | succ m =>
        obtain ⟨s, h1, h2⟩ := hw
        exact Or.inr ⟨s, h1, m, by omega, h2⟩
    · rcases z with ⟨m, hm, hw⟩ | ⟨s, h1, m, hm, hw⟩
      · exact ⟨m, by omega, hw⟩
      · exact ⟨m + 1, by omega, s, h1, hw⟩
  have key := chain (fun i q => ∃ m, m ≤ i ∧ wk A t m q) (fun (S : Nat → Prop) q => S q ∨ ∃ s, A q s ∧ S s) (fun i => funext fun q => propext (R1 i q)) (a - 1) (fun i p => ∃ m, m ≤ i ∧ wk A t m (if p < t then p else p + 1)) (fun i p ⟨m, hm, hw⟩ => ⟨m, by omega, hw⟩) (fun i hne => ?_)
  · by_cases hn : n ≤ a - 1
    · exact ⟨n, hn, h⟩
    · have e := congrFun (key n (by omega)) r
      exact e.mp ⟨n, Nat.le_refl _, h⟩
  · refine Classical.byContradiction fun hx => hne (funext fun q => propext ⟨fun ⟨m, hm, hw⟩ => ?_, fun ⟨m, hm, hw⟩ => ⟨m, by omega, hw⟩⟩)
    refine Classical.byContradiction fun hy => hx ?_
    have hq := wk_lt hA ht m q hw
    have hqt : q ≠ t := fun z => hy ⟨0, by omega, z⟩
    by_cases hl : q < t
    · refine ⟨q, by omega, ?_, ?_⟩
      · rw [if_pos hl]; exact hy
      · rw [if_pos hl]; exact ⟨m, hm, hw⟩
    · have e : (if q - 1 < t then q - 1 else q - 1 + 1) = q := by rw [if_neg (by omega)]; omega
      refine ⟨q - 1, by omega, ?_, ?_⟩
      · rw [e]; exact hy
      · rw [e]; exact ⟨m, hm, hw⟩
theorem min_ex {P : Nat → Prop} (h : ∃ n, P n) : ∃ m, P m ∧ ∀ n, P n → m ≤ n := by
  obtain ⟨n, hn⟩ := h
  induction n using Nat.strongRecOn with
  | ind n ih =>
    by_cases hx : ∃ k, k < n ∧ P k
    · obtain ⟨k, hk, hp⟩ := hx
      exact ih k hk hp
    · exact ⟨n, hn, fun k hk => Nat.le_of_not_lt (fun z => hx ⟨k, z, hk⟩)⟩
theorem mn_ex {A : Nat → Nat → Prop} {a t : Nat} (hA : ∀ r s, A r s → r < a ∧ s < a) (ht : t < a) (ha : a ≤ 6) (r : Nat) : ∃ v, MN A t r v (-1) := by
  by_cases h : ∃ n, wk A t n r
  · obtain ⟨m, hm, hn⟩ := min_ex h
    obtain ⟨k, hk, hw⟩ := wk_short hA ht hm
    have := hn k hw
    exact ⟨nI m, Or.inl ⟨m, by omega, rfl, hm, hn⟩⟩
  · exact ⟨-1, Or.inr ⟨rfl, fun n hn => h ⟨n, hn⟩⟩⟩
theorem mn_un {A : Nat → Nat → Prop} {t r : Nat} {v w : Int32} (h : MN A t r v (-1)) (g : MN A t r w (-1)) : v = w := by
  rcases h with ⟨m, h1, h2, h3, h4⟩ | ⟨h1, h2⟩
  · rcases g with ⟨k, g1, g2, g3, g4⟩ | ⟨g1, g2⟩
    · have e : m = k := Nat.le_antisymm (h4 k g3) (g4 m h3)
      rw [h2, g2, e]
    · exact absurd h3 (g2 m)
  · rcases g with ⟨k, g1, g2, g3, g4⟩ | ⟨g1, g2⟩
    · exact absurd g3 (h2 k)
    · rw [h1, g1]
theorem mn_un2 {A : Nat → Nat → Prop} {t r : Nat} {v w : Int32} (h : MN A t r v (-1)) (g : MN A t r w 99) : w = if v = -1 then 99 else v := by
  rcases h with ⟨m, h1, h2, h3, h4⟩ | ⟨h1, h2⟩
  · rcases g with ⟨k, g1, g2, g3, g4⟩ | ⟨g1, g2⟩
    · have e : m = k := Nat.le_antisymm (h4 k g3) (g4 m h3)
      rw [h2, if_neg (nI_nm1 (by omega)), g2, e]
    · exact absurd h3 (g2 m)
  · rcases g with ⟨k, g1, g2, g3, g4⟩ | ⟨g1, g2⟩
    · exact absurd g3 (h2 k)
    · rw [h1, if_pos rfl, g1]
def SND (A : Nat → Nat → Prop) (t a : Nat) (inf : Int32) (f : Nat → Int32) (c : Nat) : Prop := ∀ r, r < a → f r = inf ∨ ∃ m, m ≤ c ∧ f r = nI m ∧ wk A t m r
def VL (v : Int32) (n : Nat) : Prop := ∃ m, m ≤ n ∧ v = nI m
def CMP (A : Nat → Nat → Prop) (t : Nat) (f : Nat → Int32) (n0 : Nat) : Prop := ∀ r n, n ≤ n0 → wk A t n r → VL (f r) n
theorem mn_of {A : Nat → Nat → Prop} {t a : Nat} {inf : Int32} {f : Nat → Int32} {c n0 : Nat} (hA : ∀ r s, A r s → r < a ∧ s < a) (ht : t < a) (hc : c ≤ 98) (ha : a - 1 ≤ n0) (hn0 : n0 ≤ 10) (hinf : ∀ m, m < 99 → inf ≠ nI m) (h1 : SND A t a inf f c) (h2 : CMP A t f n0) : ∀ r, r < a → MN A t r (f r) inf := by
  intro r hr
  by_cases h : ∃ n, wk A t n r
  · obtain ⟨n, hn⟩ := h
    obtain ⟨k, hk, hw⟩ := wk_short hA ht hn
    obtain ⟨m0, hm0, e0⟩ := h2 r k (by omega) hw
    rcases h1 r hr with e | ⟨m, hm, e, hwm⟩
    · exact absurd (e.symm.trans e0) (hinf m0 (by omega))
    · refine Or.inl ⟨m, by omega, e, hwm, fun n hn => ?_⟩
      obtain ⟨k, hk, hw⟩ := wk_short hA ht hn
      by_cases hn1 : n ≤ n0
      · obtain ⟨m1, hm1, e1⟩ := h2 r n hn1 hn
        have := (nI_eq (by omega) (by omega)).mp (e.symm.trans e1)
        omega
      · obtain ⟨m1, hm1, e1⟩ := h2 r k (by omega) hw
        have := (nI_eq (by omega) (by omega)).mp (e.symm.trans e1)
        omega
  · rcases h1 r hr with e | ⟨m, hm, e, hwm⟩
    · exact Or.inr ⟨e, fun n hn => h ⟨n, hn⟩⟩
    · exact absurd ⟨m, hwm⟩ h
def IMP (inf : Int32) (f f' : Nat → Int32) (u w : Nat) : Prop := (∀ r, r ≠ w → f' r = f r) ∧ ((f' w = f w ∧ (f u = inf ∨ f u = nI 98 ∨ ∃ m k, m < 99 ∧ k < 99 ∧ f u = nI m ∧ f w = nI k ∧ k ≤ m + 1)) ∨ ∃ m, m < 98 ∧ f u = nI m ∧ f' w = nI (m + 1) ∧ (f w = inf ∨ ∃ k, k < 99 ∧ f w = nI k ∧ m + 1 < k))
theorem imp_snd {A : Nat → Nat → Prop} {t a : Nat} {inf : Int32} {f f' : Nat → Int32} {c c' u w : Nat} (hi : IMP inf f f' u w) (hu : u < a) (hA : A w u) (hinf : ∀ m, m < 99 → inf ≠ nI m) (hc : c ≤ 98) (h : SND A t a inf f c) (hcc : c ≤ c') (hcc2 : c + 1 ≤ c' ∨ c' = 98) : SND A t a inf f' c' := by
  intro r hr
  by_cases e : r = w
  · subst e
    rcases hi.2 with ⟨e1, -⟩ | ⟨m, hm, e1, e2, e3⟩
    · rw [e1]
      rcases h r hr with z | ⟨k, hk, z, zw⟩
      · exact Or.inl z
      · exact Or.inr ⟨k, by omega, z, zw⟩
    · rcases h u hu with z | ⟨k, hk, z, zw⟩
      · exact absurd (z.symm.trans e1) (hinf m (by omega))
      · have ek : m = k := (nI_eq (by omega) (by omega)).mp (e1.symm.trans z)
        subst ek
        exact Or.inr ⟨m + 1, by omega, e2, u, hA, zw⟩
  · rw [hi.1 r e]
    rcases h r hr with z | ⟨k, hk, z, zw⟩
    · exact Or.inl z
    · exact Or.inr ⟨k, by omega, z, zw⟩
theorem imp_mono {inf : Int32} {f f' : Nat → Int32} {u w r n : Nat} (hi : IMP inf f f' u w) (hinf : ∀ m, m < 99 → inf ≠ nI m) (hn : n ≤ 10) (h : VL (f r) n) : VL (f' r) n := by
  by_cases e : r = w
  · subst e
    rcases hi.2 with ⟨e1, -⟩ | ⟨m, hm, e1, e2, e3⟩
    · rw [e1]; exact h
    · obtain ⟨k, hk, ek⟩ := h
      rcases e3 with e3 | ⟨k2, hk2, e3, e4⟩
      · exact absurd (e3.symm.trans ek) (hinf k (by omega))
      · have := (nI_eq (by omega) (by omega)).mp (e3.symm.trans ek)
        exact ⟨m + 1, by omega, e2⟩
  · rw [hi.1 r e]; exact h
theorem imp_cmp {inf : Int32} {f f' : Nat → Int32} {u w n : Nat} (hi : IMP inf f f' u w) (hinf : ∀ m, m < 99 → inf ≠ nI m) (hn : n ≤ 10) (h : VL (f u) n) : VL (f' w) (n + 1) := by
  obtain ⟨k, hk, ek⟩ := h
  rcases hi.2 with ⟨e1, e2⟩ | ⟨m, hm, e1, e2, e3⟩
  · rcases e2 with e2 | e2 | ⟨m, k2, hm, hk2, e2, e3, e4⟩
    · exact absurd (e2.symm.trans ek) (hinf k (by omega))
    · have := (nI_eq (by omega) (by omega)).mp (e2.symm.trans ek)
      omega
    · have := (nI_eq (by omega) (by omega)).mp (e2.symm.trans ek)
      exact ⟨k2, by omega, e1.trans e3⟩
  · have := (nI_eq (by omega) (by omega)).mp (e1.symm.trans ek)
    exact ⟨m + 1, by omega, e2⟩
/-- one cell alone has changed -/
def FQ (q0 : Nat) (M M' : Mem) : Prop := (∀ q, q ≠ q0 → ∀ j, rd M' q j = rd M q j) ∧ M'.2 = M.2
theorem FQ.rf (q0 : Nat) (M : Mem) : FQ q0 M M := ⟨fun _ _ _ => rfl, rfl⟩
theorem FQ.tr {q0 : Nat} {M N K : Mem} (f : FQ q0 M N) (g : FQ q0 N K) : FQ q0 M K := ⟨fun q h j => (g.1 q h j).trans (f.1 q h j), g.2.trans f.2⟩
theorem FQ.wr {q0 k : Nat} {M : Mem} {v : Int32} : FQ q0 M (wr M q0 k v) := ⟨fun q h j => by rw [wr_n h], rfl⟩
theorem stC_of {M M' : Mem} {o : Nat} (f : ∀ q, (3 ≤ q ∧ q ≤ 14 ∨ o ≤ q) → ∀ j, rd M' q j = rd M q j) : stC M' o = stC M o := by
  funext i
  match i with
  | 0 => exact funext (f 4 (by omega))
  | 1 => exact funext (f 5 (by omega))
  | 2 => exact funext (f 6 (by omega))
  | 3 => exact cut_ext (fun p hp => f (11 + p) (by omega) 0)
  | 4 => exact cut_ext (fun p hp => f (o + 3) (by omega) p)
  | 5 => exact funext (f 8 (by omega))
  | 6 => exact funext (f 9 (by omega))
  | 7 => exact funext (f 10 (by omega))
  | k + 8 => exact cut_ext (fun p hp => f (o + 4) (by omega) p)
theorem tvC_of {M M' : Mem} {o : Nat} (f : ∀ q, o ≤ q → ∀ j, rd M' q j = rd M q j) : tvC M' o = tvC M o := tv_ext (cut_ext fun j _ => f _ (by omega) j) (cut_ext fun j _ => f _ (by omega) j) (cut_ext fun j _ => f _ (by omega) j)
theorem FQ.stC {q0 o : Nat} {M M' : Mem} (f : FQ q0 M M') (h1 : 15 ≤ q0) (h2 : q0 < o) : stC M' o = stC M o := stC_of (fun q hq j => f.1 q (by omega) j)
theorem FQ.tvC {q0 o : Nat} {M M' : Mem} (f : FQ q0 M M') (h2 : q0 < o) : tvC M' o = tvC M o := tvC_of (fun q hq j => f.1 q (by omega) j)
theorem FQ.co {q0 o a b c d : Nat} {M M' : Mem} (f : FQ q0 M M') (h1 : 15 ≤ q0) (h2 : q0 < o) (h : CO M o a b c d) : CO M' o a b c d := by
  unfold CO at h ⊢
  have e := f.1 3 (by omega)
  rw [e, e, e, e, f.stC h1 h2]
  exact h
theorem FQ.fr {q0 : Nat} {M M' : Mem} (f : FQ q0 M M') (h : ¬ core q0 ∧ q0 ≠ 1 ∧ q0 ≠ 29) : Fr M M' := ⟨fun q hq j => f.1 q (fun z => h.1 (z ▸ hq)) j, f.1 1 (fun z => h.2.1 z.symm) 1, fun k _ => f.1 29 (fun z => h.2.2 z.symm) k⟩
theorem FQ.stM {q0 : Nat} {M M' : Mem} (f : FQ q0 M M') (h : 43 ≤ q0) : stM M' = stM M := st_of (fun q hq j => f.1 q (by omega) j)
theorem FQ.tvM {q0 : Nat} {M M' : Mem} (f : FQ q0 M M') (h : 43 ≤ q0) : tvM M' = tvM M := tv_ext (cut_ext fun j _ => f.1 35 (by omega) j) (cut_ext fun j _ => f.1 36 (by omega) j) (cut_ext fun j _ => f.1 42 (by omega) j)
theorem FQ.mo {q0 a b c d : Nat} {M M' : Mem} (f : FQ q0 M M') (h : 43 ≤ q0) (g : MO M a b c d) : MO M' a b c d := by
  unfold MO at g ⊢
  have e := f.1 29 (by omega)
  rw [e, e, e, e, f.stM h]
  exact g
theorem inf_m1 : ∀ m, m < 99 → (-1 : Int32) ≠ nI m := fun m hm z => nI_nm1 (x := m) (by omega) z.symm
theorem inf_99 : ∀ m, m < 99 → (99 : Int32) ≠ nI m := fun m hm z => by
  have := (nI_eq (a := 99) (b := m) (by omega) (by omega)).mp z
  omega
theorem adj_lt {H : Nat → Nat → Int32} {a b p : Nat} : ∀ r s, adjH H a b p r s → r < a ∧ s < a := fun r s h => ⟨h.1, h.2.1⟩
