/-! ===== digest ===== -/
def mxU (h : Int64) (r : Int32) : Int64 := ((31 : Int64) * h) + r.toInt64
def itr (f : Nat → Int64 → Int64) (h : Int64) : Nat → Int64
  | 0 => h
  | n + 1 => f n (itr f h n)
theorem loopC {P : Mem → Int64 → Int32 → Prop} {M0 : Mem} {n : Nat} {h0 : Int64} (f : Nat → Int64 → Int64) (hstep : ∀ i M h, i < n → Fr M0 M → (∀ M', Fr M0 M' → P M' (f i h) (nI (i + 1))) → P M h (nI i)) (hexit : ∀ M, Fr M0 M → P M (itr f h0 n) (nI n)) {M : Mem} (hM : Fr M0 M) : P M h0 0 := by
  refine for_up (S := Mem × Int64) (P := fun s i => P s.1 s.2 i) (n := n) (fun i s => Fr M0 s.1 ∧ s.2 = itr f h0 i) (fun s hs => ?_) (fun i s hi hs ih => ?_) 0 (Nat.zero_le _) (M, h0) ⟨hM, rfl⟩
  · show P s.1 s.2 (nI n)
    rw [hs.2]
    exact hexit s.1 hs.1
  · refine hstep i s.1 s.2 hi hs.1 (fun M' hM' => ih (M', f i s.2) ⟨hM', ?_⟩)
    show f i s.2 = f i (itr f h0 i)
    rw [hs.2]
theorem loopM {P : Mem → Int32 → Prop} {M0 : Mem} {n : Nat} {h0 : Int64} (f : Nat → Int64 → Int64) (hstep : ∀ i M, i < n → Fr M0 M → (∀ M', Fr M0 M' → M'.2 = f i M.2 → P M' (nI (i + 1))) → P M (nI i)) (hexit : ∀ M, Fr M0 M → M.2 = itr f h0 n → P M (nI n)) {M : Mem} (hM : Fr M0 M) (hh : M.2 = h0) : P M 0 := by
  refine for_up (S := Mem) (P := fun s i => P s i) (n := n) (fun i s => Fr M0 s ∧ s.2 = itr f h0 i) (fun s hs => hexit s hs.1 hs.2) (fun i s hi hs ih => ?_) 0 (Nat.zero_le _) M ⟨hM, hh⟩
  refine hstep i s hi hs.1 (fun M' hM' h' => ih M' ⟨hM', ?_⟩)
  rw [h', hs.2]
  rfl
def ORr (cls mdl : (Int32 → Mem → Prop) → Mem → Prop) (M : Mem) (r : Int32) : Prop := (∀ (M1 : Mem) (Post : Int32 → Mem → Prop), Fr M M1 → (∀ M', Fr M1 M' → M'.2 = M1.2 → Post r M') → cls Post M1) ∧ (∀ (M1 : Mem) (Post : Int32 → Mem → Prop), Fr M M1 → (∀ M', Fr M1 M' → M'.2 = M1.2 → Post r M') → mdl Post M1)
theorem sk_nat {T : Type} (t0 : T) {c : Nat} {R : Nat → T → Prop} (h : ∀ p, p < c → ∃ g : T, R p g) : ∃ g : Nat → T, ∀ p, p < c → R p (g p) := by
  have h2 : ∀ p, ∃ g : T, p < c → R p g := fun p => by
    by_cases e : p < c
    · obtain ⟨g, hg⟩ := h p e
      exact ⟨g, fun _ => hg⟩
    · exact ⟨t0, fun z => absurd z e⟩
  exact Classical.skolem.mp h2
theorem ob_all {c : Nat} {M : Mem} {cls mdl : Nat → (Int32 → Mem → Prop) → Mem → Prop} (h : ∀ p, p < c → OB (cls p) (mdl p) M) : ∃ g : Nat → Int32, ∀ p, p < c → ORr (cls p) (mdl p) M (g p) := sk_nat 0 h
theorem sayC {cls mdl : (Int32 → Mem → Prop) → Mem → Prop} {M M1 : Mem} {r : Int32} (o : ORr cls mdl M r) (f : Fr M M1) {h : Int64} {Post : Int64 → Mem → Prop} (hP : ∀ M', Fr M M' → Post (mxU h r) M') : cls (fun r' M' => wp_X11_mix Post M' h r') M1 := o.1 M1 _ f (fun M' f' _ => hP M' (f.tr f'))
theorem sayM {cls mdl : (Int32 → Mem → Prop) → Mem → Prop} {M M1 : Mem} {r : Int32} (o : ORr cls mdl M r) (f : Fr M M1) {Post : Mem → Prop} (hP : ∀ M', Fr M M' → M'.2 = mxU M1.2 r → Post M') : mdl (fun r' M' => wp_X12_say Post M' r'.toInt64) M1 := o.2 M1 _ f (fun M' f' x' M2 e2 => by
  subst e2
  refine hP _ (f.tr (f'.tr (Fr.wrH _ _))) ?_
  show ((31 : Int64) * (M'.2)) + r.toInt64 = _
  rw [x']
  rfl)
def HBr (cls : (Int64 → Mem → Prop) → Mem → Int64 → Prop) (mdl : (Mem → Prop) → Mem → Prop) (M : Mem) (f : Int64 → Int64) : Prop := (∀ (M1 : Mem) (h : Int64) (Post : Int64 → Mem → Prop), Fr M M1 → (∀ M', Fr M M' → Post (f h) M') → cls Post M1 h) ∧ (∀ (M1 : Mem) (Post : Mem → Prop), Fr M M1 → (∀ M', Fr M M' → M'.2 = f M1.2 → Post M') → mdl Post M1)
theorem hb_person {n : Nat} {M : Mem} (hI : Inv n M) {a b c d : Nat} (hC : CO M 59 a b c d) (hM : MO M a b c d) (hT : TOK (tvM M) a c) {p : Nat} (hp : p < c) : ∃ f, HBr (fun Post M h => wp_X11_mixPerson Post M h (nI p)) (fun Post M => wp_X12_sayPerson Post M (nI p)) M f := by
  have hB := hC.2.2.2.2.1
  unfold BD at hB
  obtain ⟨g, hg⟩ := ob_all (c := 9) (fun w _ => ob_person hI hC hM hp (nI w))
  obtain ⟨w0, hw0⟩ := ob_all (c := a) (fun t ht => ob_way hI hC hM hT hp ht (v := 0) (Or.inl rfl))
  obtain ⟨w1, hw1⟩ := ob_all (c := a) (fun t ht => ob_way hI hC hM hT hp ht (v := 10) (Or.inr ⟨0, by omega, rfl⟩))
  generalize hS : ngt (stM M) p b d 2 (tvM M) = S
  refine ⟨fun h => mxU (mxU (mxU (itr (fun i h => mxU (mxU h (w0 i)) (w1 i)) (itr (fun i h => mxU h (g i)) h 9) a) S.1) (ngA S 2 0)) (ngA S 2 1), fun M1 h Post f hP => ?_, fun M1 Post f hP => ?_⟩
  · intro P6 P36 h6 h36
    refine loopC (P := P6) (M0 := M) (n := 9) (fun i h => mxU h (g i)) (fun i M2 h2 hi f2 ih => h6 _ _ _ ⟨fun z => absurd z (nI_nlt (a := 8) (b := i) (by omega) (by omega)), fun _ => ?_⟩) (fun M2 f2 => h6 _ _ _ ⟨fun _ => ?_, fun z => absurd (by decide) z⟩) f
    · refine sayC (cls := fun P M => wp_X11_person P M (nI p) (nI i)) (hg i hi) f2 (fun M' f' x hx => ?_)
      rw [hx, nI_1]
      exact ih M' f'
    · refine loopC (P := P36) (M0 := M) (n := a) (fun i h => mxU (mxU h (w0 i)) (w1 i)) (fun i M3 h3 hi f3 ih => h36 _ _ _ ⟨fun z => absurd z ?_, fun _ => ?_⟩) (fun M3 f3 => h36 _ _ _ ⟨fun _ => ?_, fun z => absurd ?_ z⟩) f2
      · rw [(f3.both hI hC hM).1.1]
        exact le_n (by omega) hi
      · refine sayC (cls := fun P M => wp_X11_way P M (nI p) (nI i) 0) (hw0 i hi) f3 (fun M' f' => ?_)
        refine sayC (cls := fun P M => wp_X11_way P M (nI p) (nI i) 10) (hw1 i hi) f' (fun M' f' x hx => ?_)
        rw [hx, nI_1]
        exact ih M' f'
      · have hC1 := (f3.both hI hC hM).1
        have hs := f3.cs hI
        have ht := f3.ct hI
        obtain ⟨s, s1, s2, s3, s4, s5, s6⟩ := (f3.inv hI).sees hC1
        refine sp_search (many := 2) hC1 (by omega) (by omega) (by rw [ht]; exact hT.2) s5 (fun M4 f4 x4 st => ?_)
        rw [hs, ht, hS] at st
        unfold wp_X11_mix
        show wp_X5_doorAt _ M4 (nI 0) (nI 2)
        refine sp_doorAt (by omega) (by omega) st ?_
        show wp_X5_doorAt _ M4 (nI 1) (nI 2)
        refine sp_doorAt (by omega) (by omega) st ?_
        rw [st.1]
        exact hP M4 (f3.tr f4)
      · rw [(f3.both hI hC hM).1.1]
        exact Int32.le_refl _
  · have e0 : ngR S 2 0 = S.1 := if_pos rfl
    have e10 : ngR S 2 10 = ngA S 2 0 := by
      unfold ngR
      rw [if_neg (by decide), show ((10 : Int32) - 10).toNatClampNeg = 0 by decide]
    have e11 : ngR S 2 11 = ngA S 2 1 := by
      unfold ngR
      rw [if_neg (by decide), show ((11 : Int32) - 10).toNatClampNeg = 1 by decide]
    have nt : ∀ (v : Int32), (v = 0 ∨ ∃ m, m ≤ 3 ∧ v = nI (10 + m)) → ∀ (M2 : Mem) (Q : Mem → Prop), Fr M M2 → (∀ M', Fr M M' → M'.2 = mxU M2.2 (ngR S 2 v) → Q M') → wp_X12_nightOf (fun r M' => wp_X12_say Q M' r.toInt64) M2 (nI p) 2 v := fun v hv M2 Q f2 hQ => by
      have hM1 := (f2.both hI hC hM).2
      refine sp_nightOf (many := 2) hM1 (by omega) (by omega) hv (fun M' f' => ?_)
      rw [f2.st, f2.tv, hS]
      intro M3 e3
      subst e3
      refine hQ _ (f2.tr (f'.fr.tr (Fr.wrH _ _))) ?_
      show ((31 : Int64) * (M'.2)) + (ngR S 2 v).toInt64 = _
      rw [f'.2]
      rfl
    intro P2 P27 h2 h27
    refine loopM (P := P2) (M0 := M) (n := 9) (h0 := M1.2) (fun i h => mxU h (g i)) (fun i M2 hi f2 ih => h2 _ _ ⟨fun z => absurd z (le_n (n := 9) (by omega) hi), fun _ => ?_⟩) (fun M2 f2 x2 => h2 _ _ ⟨fun _ => ?_, fun z => absurd (by decide) z⟩) f rfl
    · refine sayM (mdl := fun P M => wp_X12_tellPerson P M (nI p) (nI i)) (hg i hi) f2 (fun M' f' x' x hx => ?_)
      rw [hx, nI_1]
      exact ih M' f' x'
    · refine loopM (P := P27) (M0 := M) (n := a) (fun i h => mxU (mxU h (w0 i)) (w1 i)) (fun i M3 hi f3 ih => h27 _ _ ⟨fun z => absurd z ?_, fun _ => ?_⟩) (fun M3 f3 x3 => h27 _ _ ⟨fun _ => ?_, fun z => absurd ?_ z⟩) f2 x2
      · rw [(f3.both hI hC hM).2.1]
        exact le_n (by omega) hi
      · refine sayM (mdl := fun P M => wp_X12_wayOf P M (nI p) (nI i) 0) (hw0 i hi) f3 (fun M' f' x' => ?_)
        refine sayM (mdl := fun P M => wp_X12_wayOf P M (nI p) (nI i) 10) (hw1 i hi) f' (fun M'' f'' x'' x hx => ?_)
        rw [hx, nI_1]
        exact ih M'' f'' (by rw [x'', x'])
      · refine nt 0 (Or.inl rfl) M3 _ f3 (fun M4 f4 x4 => ?_)
        refine nt 10 (Or.inr ⟨0, by omega, rfl⟩) M4 _ f4 (fun M5 f5 x5 => ?_)
        refine nt 11 (Or.inr ⟨1, by omega, rfl⟩) M5 _ f5 (fun M6 f6 x6 => ?_)
        refine hP M6 f6 ?_
        rw [x6, x5, x4, x3, e0, e10, e11]
      · rw [(f3.both hI hC hM).2.1]
        exact Int32.le_refl _
