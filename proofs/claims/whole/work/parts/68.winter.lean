/-! ===== paying all; winters ===== -/
def pyS (H : Nat → Nat → Int32) (hr : Bool) (p k : Nat) (S : TV × Int32) : TV × Int32 := if H 5 k = nI p ∧ (hr = true → H 7 k = S.1.2.1 p) ∧ mayB H S.1 k = true then (stl H S.1 k, S.2 + H 8 k) else S
def pyU (H : Nat → Nat → Int32) (hr : Bool) (p : Nat) (T : TV) : Nat → TV × Int32
  | 0 => (T, 0)
  | k + 1 => pyS H hr p k (pyU H hr p T k)
theorem sp_payAllC {Post : Int32 → Mem → Prop} {M : Mem} {o a b c d p : Nat} {v2 : Int32} (hr : Bool) (hv : v2 = if hr = true then 1 else 0) (hC : CO M o a b c d) (ho : 59 ≤ o) (hp : p < 4) (h : ∀ M', FA o M M' → tvC M' o = (pyU (stC M o) hr p (tvC M o) d).1 → Post (pyU (stC M o) hr p (tvC M o) d).2 M') : wp_X0_payAll Post M o (nI p) v2 := by
  intro P5 h5
  have hB := hC.2.2.2.2.1
  unfold BD at hB
  have n0 := cl4 (p := p) (by omega)
  refine for_up (S := Mem × Int32) (P := fun t i => P5 t.1 t.2 i) (n := d) (fun i t => FA o M t.1 ∧ (tvC t.1 o, t.2) = pyU (stC M o) hr p (tvC M o) i) (fun t ht => ?_) (fun i t hi ht ih => ?_) 0 (Nat.zero_le _) (M, 0) ⟨FA.rf o M, rfl⟩
  · obtain ⟨f, e⟩ := ht
    have hC' := f.co ho hC
    refine h5 _ _ _ ⟨fun _ => ?_, fun z => absurd (by rw [hC'.2.2.2.1]; exact Int32.le_refl _) z⟩
    have := h t.1 f (congrArg Prod.fst e)
    rw [← e] at this
    exact this
  · obtain ⟨M', v⟩ := t
    obtain ⟨f, e⟩ := ht
    have f : FA o M M' := f
    have e : (tvC M' o, v) = pyU (stC M o) hr p (tvC M o) i := e
    have hC' := f.co ho hC
    have hH := f.st ho
    have n1 := cl4 (p := i) (by omega)
    have v4 : vp_in (nI i) 4 := vp_in_nI (by omega) (by omega)
    have vp4 : vp_in (nI p) 4 := vp_in_nI (by omega) (by omega)
    have e5 : stC M o 5 i = rd M' 8 i := by rw [← hH]; rfl
    have e7 : stC M o 7 i = rd M' 10 i := by rw [← hH]; rfl
    have e8 : stC M o 8 i = rd M' (o + 4) i := by rw [← hH]; exact cut_lt (by omega)
    have er : (tvC M' o).2.1 p = rd M' (o + 2) p := cut_lt hp
    have pyn : pyU (stC M o) hr p (tvC M o) (i + 1) = pyS (stC M o) hr p i (tvC M' o, v) := by rw [pyU, ← e]
    unfold pyS at pyn
    have b45 : (hr = true → rd M' 10 i = rd M' (o + 2) p) → wp_X0_payAll_b45 Post o (nI p) v2 P5 M' v (nI i) 1 := by
      intro ask
      unfold wp_X0_payAll_b45
      rw [n1]
      refine ⟨fun z => absurd z (by decide), fun _ => ⟨v4, fun z x4 hx4 => ?_, fun z => ?_⟩⟩
      · rw [hx4, nI_1]
        rw [if_neg (fun t => z (e5.symm.trans t.1))] at pyn
        exact ih (M', v) ⟨f, pyn.symm⟩
      · rw [eqc_may hC' hi, hH]
        by_cases m : mayB (stC M o) (tvC M' o) i = true
        · rw [if_pos m]
          refine ⟨fun y => absurd y (by decide), fun _ => sp_settle hC' hi (fun M7 f7 g7 => ⟨v4, fun x3 hx3 x4 hx4 => ?_⟩)⟩
          rw [hx3, hx4, nI_1]
          rw [if_pos ⟨e5.trans z, fun t => by show stC M o 7 i = (tvC M' o).2.1 p; rw [e7, er]; exact ask t, m⟩] at pyn
          refine ih (M7, v + rd M7 (o + 4) i) ⟨f.tr f7.fa, ?_⟩
          rw [pyn]
          show (tvC M7 o, v + rd M7 (o + 4) i) = (stl (stC M o) (tvC M' o) i, v + stC M o 8 i)
          rw [g7, hH, f7.1 (o + 4) (by omega) (by omega), e8]
        · rw [if_neg m]
          refine ⟨fun _ x4 hx4 => ?_, fun y => absurd rfl y⟩
          rw [hx4, nI_1]
          rw [if_neg (fun t => m t.2.2)] at pyn
          exact ih (M', v) ⟨f, pyn.symm⟩
    refine h5 _ _ _ ⟨fun z => absurd z (by rw [hC'.2.2.2.1]; exact le_n (by omega) hi), fun _ => ⟨fun z => b45 (fun t => ?_), fun z => ?_⟩⟩
    · rw [hv, if_pos t] at z
      exact absurd z (by decide)
    · rw [n1, n0]
      refine ⟨v4, vp4, fun y => ?_, fun y => b45 (fun _ => y)⟩
      have hrt : hr = true := by
        cases hr
        · exact absurd (by rw [hv]; rfl) z
        · rfl
      unfold wp_X0_payAll_b45
      refine ⟨fun _ x4 hx4 => ?_, fun w => absurd rfl w⟩
      rw [hx4, nI_1]
      rw [if_neg (fun t => y (by have := t.2.1 hrt; rw [e7] at this; exact this.trans er))] at pyn
      exact ih (M', v) ⟨f, pyn.symm⟩
theorem sp_payAllM {Post : Int32 → Mem → Prop} {M : Mem} {a b c d p : Nat} (hC : MO M a b c d) (h : ∀ M', FT M M' → tvT M' = (pyU (stM M) false p (tvT M) d).1 → Post (pyU (stM M) false p (tvT M) d).2 M') : wp_X12_payAll Post M (nI p) := by
  intro P5 h5
  have hB := hC.2.2.2.2.1
  unfold BD at hB
  refine for_up (S := Mem × Int32) (P := fun t i => P5 t.1 t.2 i) (n := d) (fun i t => FT M t.1 ∧ (tvT t.1, t.2) = pyU (stM M) false p (tvT M) i) (fun t ht => ?_) (fun i t hi ht ih => ?_) 0 (Nat.zero_le _) (M, 0) ⟨FT.rf M, rfl⟩
  · obtain ⟨f, e⟩ := ht
    have hC' := f.mo hC
    refine h5 _ _ _ ⟨fun _ => ?_, fun z => absurd (by rw [hC'.2.2.2.1]; exact Int32.le_refl _) z⟩
    have := h t.1 f (congrArg Prod.fst e)
    rw [← e] at this
    exact this
  · obtain ⟨M', v⟩ := t
    obtain ⟨f, e⟩ := ht
    have f : FT M M' := f
    have e : (tvT M', v) = pyU (stM M) false p (tvT M) i := e
    have hC' := f.mo hC
    have hH := f.st
    have n1 := cl4 (p := i) (by omega)
    have v4 : vp_in (nI i) 4 := vp_in_nI (by omega) (by omega)
    have e5 : stM M 5 i = rd M' 38 i := by rw [← hH]; rfl
    have e8 : stM M 8 i = rd M' 41 i := by rw [← hH]; exact cut_lt (by omega)
    have pyn : pyU (stM M) false p (tvT M) (i + 1) = pyS (stM M) false p i (tvT M', v) := by rw [pyU, ← e]
    unfold pyS at pyn
    refine h5 _ _ _ ⟨fun z => absurd z (by rw [hC'.2.2.2.1]; exact le_n (by omega) hi), fun _ => ?_⟩
    rw [n1]
    refine ⟨v4, fun z x4 hx4 => ?_, fun z => ?_⟩
    · rw [hx4, nI_1]
      rw [if_neg (fun t => z (e5.symm.trans t.1))] at pyn
      exact ih (M', v) ⟨f, pyn.symm⟩
    · rw [eqm_may hC' hi, hH]
      by_cases m : mayB (stM M) (tvT M') i = true
      · rw [if_pos m]
        refine ⟨fun y => absurd y (by decide), fun _ => sp_payThen hC' hi (fun M7 f7 g7 => ⟨v4, fun x3 hx3 x4 hx4 => ?_⟩)⟩
        rw [hx3, hx4, nI_1]
        rw [if_pos ⟨e5.trans z, fun t => absurd t (by decide), m⟩] at pyn
        refine ih (M7, v + rd M7 41 i) ⟨f.tr f7, ?_⟩
        rw [pyn]
        show (tvT M7, v + rd M7 41 i) = (stl (stM M) (tvT M') i, v + stM M 8 i)
        rw [g7, hH, f7.1 41 (by omega) (by omega) (by omega), e8]
      · rw [if_neg m]
        refine ⟨fun _ x4 hx4 => ?_, fun y => absurd rfl y⟩
        rw [hx4, nI_1]
        rw [if_neg (fun t => m t.2.2)] at pyn
        exact ih (M', v) ⟨f, pyn.symm⟩
theorem sp_payHere {Post : Int32 → Mem → Prop} {M : Mem} {a b c d p : Nat} (hC : MO M a b c d) (hp : p < 4) (h : ∀ M', FT M M' → tvT M' = (pyU (stM M) true p (tvT M) d).1 → Post (pyU (stM M) true p (tvT M) d).2 M') : wp_X12_payHere Post M (nI p) := by
  intro P5 h5
  have hB := hC.2.2.2.2.1
  unfold BD at hB
  have n0 := cl4 (p := p) (by omega)
  refine for_up (S := Mem × Int32) (P := fun t i => P5 t.1 t.2 i) (n := d) (fun i t => FT M t.1 ∧ (tvT t.1, t.2) = pyU (stM M) true p (tvT M) i) (fun t ht => ?_) (fun i t hi ht ih => ?_) 0 (Nat.zero_le _) (M, 0) ⟨FT.rf M, rfl⟩
  · obtain ⟨f, e⟩ := ht
    have hC' := f.mo hC
    refine h5 _ _ _ ⟨fun _ => ?_, fun z => absurd (by rw [hC'.2.2.2.1]; exact Int32.le_refl _) z⟩
    have := h t.1 f (congrArg Prod.fst e)
    rw [← e] at this
    exact this
  · obtain ⟨M', v⟩ := t
    obtain ⟨f, e⟩ := ht
    have f : FT M M' := f
    have e : (tvT M', v) = pyU (stM M) true p (tvT M) i := e
    have hC' := f.mo hC
    have hH := f.st
    have n1 := cl4 (p := i) (by omega)
    have v4 : vp_in (nI i) 4 := vp_in_nI (by omega) (by omega)
    have vp4 : vp_in (nI p) 4 := vp_in_nI (by omega) (by omega)
    have e5 : stM M 5 i = rd M' 38 i := by rw [← hH]; rfl
    have e7 : stM M 7 i = rd M' 40 i := by rw [← hH]; rfl
    have e8 : stM M 8 i = rd M' 41 i := by rw [← hH]; exact cut_lt (by omega)
    have er : (tvT M').2.1 p = rd M' 44 p := cut_lt hp
    have pyn : pyU (stM M) true p (tvT M) (i + 1) = pyS (stM M) true p i (tvT M', v) := by rw [pyU, ← e]
    unfold pyS at pyn
    refine h5 _ _ _ ⟨fun z => absurd z (by rw [hC'.2.2.2.1]; exact le_n (by omega) hi), fun _ => ?_⟩
    rw [n1, n0]
    refine ⟨v4, fun z x4 hx4 => ?_, fun z => ⟨v4, vp4, fun w x4 hx4 => ?_, fun w => ?_⟩⟩
    · rw [hx4, nI_1]
      rw [if_neg (fun t => z (e5.symm.trans t.1))] at pyn
      exact ih (M', v) ⟨f, pyn.symm⟩
    · rw [hx4, nI_1]
      rw [if_neg (fun t => w (by have := t.2.1 rfl; rw [e7] at this; exact this.trans er))] at pyn
      exact ih (M', v) ⟨f, pyn.symm⟩
    · rw [eqm_may hC' hi, hH]
      by_cases m : mayB (stM M) (tvT M') i = true
      · rw [if_pos m]
        refine ⟨fun y => absurd y (by decide), fun _ => sp_payThen hC' hi (fun M7 f7 g7 => ⟨v4, fun x3 hx3 x4 hx4 => ?_⟩)⟩
        rw [hx3, hx4, nI_1]
        rw [if_pos ⟨e5.trans z, fun t => by show stM M 7 i = (tvT M').2.1 p; rw [e7, er]; exact w, m⟩] at pyn
        refine ih (M7, v + rd M7 41 i) ⟨f.tr f7, ?_⟩
        rw [pyn]
        show (tvT M7, v + rd M7 41 i) = (stl (stM M) (tvT M') i, v + stM M 8 i)
        rw [g7, hH, f7.1 41 (by omega) (by omega) (by omega), e8]
      · rw [if_neg m]
        refine ⟨fun _ x4 hx4 => ?_, fun y => absurd rfl y⟩
        rw [hx4, nI_1]
        rw [if_neg (fun t => m t.2.2)] at pyn
        exact ih (M', v) ⟨f, pyn.symm⟩
def goT (H : Nat → Nat → Int32) (T : TV) (p k : Nat) : TV := (T.1, fun j => if j = p then byH H k (T.2.1 p) else T.2.1 j, T.2.2)
theorem sp_goT {Post : Mem → Prop} {M : Mem} {o a b c d p k : Nat} (hC : CO M o a b c d) (hp : p < 4) (hk : k < b) (h : ∀ M', FA o M M' → tvC M' o = goT (stC M o) (tvC M o) p k → Post M') : wp_X0_goThrough Post M o (nI p) (nI k) := by
  have hB := hC.2.2.2.2.1
  unfold BD at hB
  rw [eq_goThrough hp (by omega)]
  refine h _ ⟨fun q h0 h1 h2 h5 j => by rw [wr_n h0, wr_n h2], rfl⟩ ?_
  refine tv_ext (cut_ext fun j hj => by rw [wr_n (by omega), wr_n (by omega)]) (funext fun j => ?_) (cut_ext fun j hj => by rw [wr_n (by omega), wr_n (by omega)])
  show cut 4 (rd _ (o + 2)) j = if j = p then byH (stC M o) k (cut 4 (rd M (o + 2)) p) else cut 4 (rd M (o + 2)) j
  rw [cut_lt hp]
  unfold cut
  by_cases hj : j < 4
  · rw [if_pos hj, if_pos hj, wr_n (by omega), wr_q]
    rfl
  · rw [if_neg hj, if_neg hj, if_neg (by omega)]
