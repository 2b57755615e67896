/-! ===== the night, model ===== -/
theorem p6 {n : Nat} (h : n ≤ 4) : 0 < 6 ^ n ∧ 6 ^ n ≤ 1296 := by
  rcases (by omega : n = 0 ∨ n = 1 ∨ n = 2 ∨ n = 3 ∨ n = 4) with rfl | rfl | rfl | rfl | rfl <;> decide
theorem p6_1 {n : Nat} (h : n ≤ 4) : 6 ^ n ≤ 1 ↔ n = 0 := by
  rcases (by omega : n = 0 ∨ n = 1 ∨ n = 2 ∨ n = 3 ∨ n = 4) with rfl | rfl | rfl | rfl | rfl <;> decide
theorem tvT_wr {N : Mem} {H : Nat → Nat → Int32} {p k : Nat} {w : Int32} (hp : p < 4) (hw : w = byH H k ((tvT N).2.1 p)) : tvT (wr N 44 p w) = goT H (tvT N) p k := by
  refine tv_ext (cut_ext fun j _ => by rw [wr_n (by omega)]) (funext fun j => ?_) (cut_ext fun j _ => by rw [wr_n (by omega)])
  show cut 4 (rd (wr N 44 p w) 44) j = if j = p then byH H k ((tvT N).2.1 p) else cut 4 (rd N 44) j
  rw [← hw]
  unfold cut
  by_cases hj : j < 4
  · rw [if_pos hj, if_pos hj, wr_q]
  · rw [if_neg hj, if_neg hj, if_neg (by omega)]
theorem sp_paysBy {Post : Int32 → Mem → Prop} {M : Mem} {a b c d p row many : Nat} (hC : MO M a b c d) (hp : p < 4) (hm : many ≤ 4) (hrow : row < 1296) (h : ∀ M', FT M M' → Post (vl2 (stM M) p b d row many (pyU (stM M) true p (tvM M) d).1 (0 + (pyU (stM M) true p (tvM M) d).2)) M') : wp_X12_paysBy Post M (nI p) (nI row) (nI many) := by
  intro P10 P39 h10 h39
  have hB := hC.2.2.2.2.1
  have hB2 := hB
  unfold BD at hB
  have np := cl4 (p := p) (by omega)
  refine sp_begin (fun M2 f2 g2 => ?_)
  have hC2 := f2.mo hC
  refine for_up (S := Int32) (P := fun v i => P10 M2 v i) (n := max many 1) (fun i v => 1 ≤ i ∧ v = nI (6 ^ (i - 1))) (fun v hv => ?_) (fun i v hi hv ih => ?_) 1 (by omega) 1 ⟨by omega, rfl⟩
  · refine h10 _ _ _ ⟨fun _ => ?_, fun z => absurd (nI_le (by omega) (by omega)) z⟩
    refine sp_payHere hC2 hp (fun M4 f4 e4 => ?_)
    rw [f2.st, g2] at e4 ⊢
    have z0 : (0 : Int32) + (pyU (stM M) true p (tvM M) d).2 = (pyU (stM M) true p (tvM M) d).2 := by simp
    rw [z0] at h
    generalize hres : vl2 (stM M) p b d row many (pyU (stM M) true p (tvM M) d).1 (pyU (stM M) true p (tvM M) d).2 = res at h
    rw [← e4] at hres
    refine for_up (S := Mem × Int32 × Int32) (P := fun s i => P39 s.1 s.2.1 s.2.2 i) (n := many) (fun i s => FT M s.1 ∧ s.2.1 = nI (6 ^ (many - 1 - i)) ∧ vl2 (stM M) p b d row (many - i) (tvT s.1) s.2.2 = res) (fun s hs => ?_) (fun i s hi hs ih => ?_) 0 (Nat.zero_le _) (M4, v, (pyU (stM M) true p (tvM M) d).2) ⟨f2.tr f4, ?_, hres⟩
    · obtain ⟨fs, es, rs⟩ := hs
      rw [Nat.sub_self, vl2] at rs
      refine h39 _ _ _ _ ⟨fun _ => ?_, fun z => absurd (Int32.le_refl _) z⟩
      rw [rs]; exact h s.1 fs
    · obtain ⟨N, of, acc⟩ := s
      obtain ⟨fs0, es0, rs0⟩ := hs
      have fs : FT M N := fs0
      have es : of = nI (6 ^ (many - 1 - i)) := es0
      have rs : vl2 (stM M) p b d row (many - i) (tvT N) acc = res := rs0
      clear fs0 es0 rs0
      have hk6 : ∀ n, row / 6 ^ n % 6 < 6 := fun n => Nat.mod_lt _ (by omega)
      obtain ⟨n, hn⟩ : ∃ n, many - i = n + 1 := ⟨many - i - 1, by omega⟩
      rw [show many - 1 - i = n by omega] at es
      rw [hn, vl2] at rs
      obtain ⟨q1, q2⟩ := p6 (n := n) (by omega)
      have hCN := fs.mo hC
      subst es
      refine h39 _ _ _ _ ⟨fun z => absurd z (le_n (by omega) hi), fun _ => ⟨nI_ne0 q1 (by omega), fun x7 hx7 => ?_⟩⟩
      have ex : x7 = nI (row / 6 ^ n % 6) := by
        rw [hx7, pk_div (by omega) q1 (by omega)]
        exact pk_rem (a := row / 6 ^ n) (d := 6) (Nat.lt_of_le_of_lt (Nat.div_le_self _ _) (by omega)) (by omega) (by omega)
      rw [ex]
      have tail : wp_X12_paysBy_b69 Post (nI p) (nI row) (nI many) P10 P39 N acc (nI i) (nI (row / 6 ^ n % 6)) (nI (6 ^ (n - 1))) := by
        have hk6 := hk6 n
        generalize row / 6 ^ n % 6 = k at rs hk6 ⊢
        unfold wp_X12_paysBy_b69
        rw [hCN.2.1, np]
        refine ⟨fun z => ⟨fun y => absurd rfl y, fun _ => ?_⟩, fun z => ⟨vp_in_nI hp (by omega), ?_⟩⟩
        · by_cases kb : k < b
          · exact absurd z (nI_ge kb (by omega))
          · rw [if_neg (fun y => kb y.1)] at rs
            rw [rs]; exact h N fs
        · by_cases kb : k < b
          · have er : rd N 44 p = (tvT N).2.1 p := (cut_lt hp).symm
            rw [eqm_thr hCN hp kb, fs.st, er]
            unfold wp_X12_paysBy_b97
            rw [nxt_go hB2 hC.2.2.2.2.2 kb, np]
            refine ⟨fun g => ⟨vp_in_nI hp (by omega), ?_⟩, fun g => ?_⟩
            · have g := Classical.not_not.mp g
              rintro M10 rfl
              rw [if_pos ⟨kb, g⟩] at rs
              have en : nxt (stM M) p k ((tvT N).2.1 p) = byH (stM M) k ((tvT N).2.1 p) := by unfold nxt; rw [if_pos g]
              rw [en]
              have f10 : FT N (wr N 44 p (byH (stM M) k ((tvT N).2.1 p))) := ⟨fun q h1 h2 h3 j => by rw [wr_n h2], rfl⟩
              have t10 := tvT_wr (H := stM M) (k := k) (N := N) hp rfl
              refine sp_payHere ((fs.tr f10).mo hC) hp (fun M12 f12 e12 => ?_)
              rw [(fs.tr f10).st, t10] at e12 ⊢
              intro x5 hx5 x6 hx6
              rw [hx6, nI_1]
              refine ih (M12, nI (6 ^ (n - 1)), x5) ⟨(fs.tr f10).tr f12, ?_, ?_⟩
              · show nI (6 ^ (n - 1)) = nI (6 ^ (many - 1 - (i + 1)))
                rw [show many - 1 - (i + 1) = n - 1 by omega]
              · show vl2 (stM M) p b d row (many - (i + 1)) (tvT M12) x5 = res
                rw [show many - (i + 1) = n by omega, e12, hx5]
                exact rs
            · rw [if_neg (fun y => g y.2)] at rs
              rw [rs]; exact h N fs
          · exact absurd (nI_le (show b ≤ k by omega) (by omega)) z
      refine ⟨fun z => ?_, fun z => ?_⟩
      · have n0 : n = 0 := (p6_1 (by omega)).mp ((nI_leI (a := 6 ^ n) (b := 1) (by omega) (by omega)).mp z)
        subst n0
        exact tail
      · have n0 : ¬ n = 0 := fun y => z ((nI_leI (a := 6 ^ n) (b := 1) (by omega) (by omega)).mpr ((p6_1 (by omega)).mpr y))
        have e6 : nI (6 ^ n) / 6 = nI (6 ^ (n - 1)) := by
          have := pk_div (a := 6 ^ n) (d := 6) (by omega) (by omega) (by omega)
          rw [show 6 ^ n / 6 = 6 ^ (n - 1) by
            obtain ⟨m, rfl⟩ : ∃ m, n = m + 1 := ⟨n - 1, by omega⟩
            rw [Nat.pow_succ, Nat.mul_div_cancel _ (by omega)]; rfl] at this
          exact this
        rw [e6]; exact tail
    · show v = nI (6 ^ (many - 1 - 0))
      rw [hv.2]
      congr 2
      omega
  · obtain ⟨i1, ev⟩ := hv
    refine h10 _ _ _ ⟨fun z => absurd z (le_n (by omega) (by omega)), fun _ x4 hx4 x5 hx5 => ?_⟩
    rw [hx5, nI_1]
    refine ih x4 ⟨by omega, ?_⟩
    have e6 : nI (6 ^ (i - 1)) * (6 : Int32) = nI (6 ^ (i - 1) * 6) := pk_mul _ 6
    rw [hx4, ev, e6, ← Nat.pow_succ, show (i - 1).succ = i + 1 - 1 by omega]
theorem FT.tvM {M M' : Mem} (f : FT M M') : tvM M' = tvM M := f.fr.tv
def ngR (S : Int32 × Nat) (many : Nat) (v : Int32) : Int32 := if v = 0 then S.1 else ngA S many (v - 10).toNatClampNeg
theorem v10 {m : Nat} : nI (10 + m) - 10 = nI m := by
  have := pk_sub (a := 10 + m) (b := 10) (by omega)
  rw [show 10 + m - 10 = m by omega] at this
  exact this
theorem sp_nightOf {Post : Int32 → Mem → Prop} {M : Mem} {a b c d p many : Nat} {v : Int32} (hC : MO M a b c d) (hp : p < 4) (hm : many ≤ 4) (hv : v = 0 ∨ ∃ m, m ≤ 3 ∧ v = nI (10 + m)) (h : ∀ M', FT M M' → Post (ngR (ngt (stM M) p b d many (tvM M)) many v) M') : wp_X12_nightOf Post M (nI p) (nI many) v := by
  intro P6 P34 P114 h6 h34 h114
  have hB := hC.2.2.2.2.1
  have hB2 := hB
  unfold BD at hB
  obtain ⟨r1, r2⟩ := p6 hm
  have rg := rw_go (H := stM M) (p := p) (d := d) (show b ≤ 6 by omega) many (pyU (stM M) true p (tvM M) d).1 (0 + (pyU (stM M) true p (tvM M) d).2) 0 (-1, 0) (Int32.le_refl _)
  unfold ngt at h
  rw [← rg, Nat.zero_mul] at h
  obtain ⟨f, hf⟩ : ∃ f : Nat → Int32, f = fun row => vl2 (stM M) p b d row many (pyU (stM M) true p (tvM M) d).1 (0 + (pyU (stM M) true p (tvM M) d).2) := ⟨_, rfl⟩
  rw [← hf] at h
  have rows : ∀ N, FT M N → P34 N (nI (6 ^ many)) (-1) (-1) 0 := by
    intro N0 f0
    refine for_up (S := Mem × Int32 × Int32) (P := fun s i => P34 s.1 (nI (6 ^ many)) s.2.1 s.2.2 i) (n := 6 ^ many) (fun i s => FT M s.1 ∧ s.2.2 = (rwN f 0 i (-1, 0)).1 ∧ (¬ (rwN f 0 i (-1, 0)).1 = -1 → s.2.1 = nI (rwN f 0 i (-1, 0)).2) ∧ (rwN f 0 i (-1, 0)).2 < 1296) (fun s hs => ?_) (fun i s hi hs ih => ?_) 0 (Nat.zero_le _) (N0, -1, -1) ⟨f0, rfl, fun z => absurd rfl z, by show 0 < 1296; omega⟩
    · obtain ⟨N, w5, w6⟩ := s
      obtain ⟨fs, e6, e5, l⟩ := hs
      have fin := h N fs
      have e6 : w6 = (rwN f 0 (6 ^ many) (-1, 0)).1 := e6
      have e5 : ¬ (rwN f 0 (6 ^ many) (-1, 0)).1 = -1 → w5 = nI (rwN f 0 (6 ^ many) (-1, 0)).2 := e5
      generalize rwN f 0 (6 ^ many) (-1, 0) = U at fin e6 e5 l
      unfold ngR at fin
      refine h34 _ _ _ _ _ ⟨fun _ => ⟨fun z => ?_, fun z => ⟨fun y x7 hx7 x8 hx8 => ?_, fun y => ?_⟩⟩, fun z => absurd (Int32.le_refl _) z⟩
      · rw [if_pos z] at fin
        rw [e6]; exact fin
      · rw [if_neg z] at fin
        rcases hv with e | ⟨m, hm3, e⟩
        · exact absurd e z
        have y : ¬ w6 = -1 := y
        have e5 := e5 (by rw [← e6]; exact y)
        rw [e, v10] at hx7
        rw [e, v10, cl4 (by omega)] at fin
        unfold ngA at fin
        rw [if_neg (by rw [← e6]; exact y)] at fin
        rw [hx7, nI_1] at hx8
        rw [hx7, hx8, e5]
        by_cases mm : many ≤ m
        · rw [if_pos mm] at fin
          exact h114 _ _ _ _ ⟨fun _ => ⟨fun _ => fin, fun q => absurd (nI_le mm (by omega)) q⟩, fun q => absurd (nI_le (by omega) (by omega)) q⟩
        · rw [if_neg mm] at fin
          refine for_up (S := Int32) (P := fun w i => P114 N w (nI m) i) (n := many) (fun i w => m + 1 ≤ i ∧ w = nI (U.2 / 6 ^ (i - (m + 1)))) (fun w hw => ?_) (fun i w hi hw ih => ?_) (m + 1) (by omega) (nI U.2) ⟨Nat.le_refl _, by rw [Nat.sub_self, Nat.pow_zero, Nat.div_one]⟩
          · refine h114 _ _ _ _ ⟨fun _ => ⟨fun q => absurd q (nI_ge (by omega) (by omega)), fun _ => ?_⟩, fun q => absurd (Int32.le_refl _) q⟩
            rw [hw.2]
            have e9 := pk_rem (a := U.2 / 6 ^ (many - (m + 1))) (d := 6) (Nat.lt_of_le_of_lt (Nat.div_le_self _ _) (by omega)) (by omega) (by omega)
            rw [show many - 1 - m = many - (m + 1) by omega, ← e9] at fin
            exact fin
          · refine h114 _ _ _ _ ⟨fun q => absurd q (nI_ge hi (by omega)), fun _ x5 hx5 x8 hx8 => ?_⟩
            rw [hx8, nI_1]
            refine ih x5 ⟨by omega, ?_⟩
            have e9 := pk_div (a := U.2 / 6 ^ (i - (m + 1))) (d := 6) (Nat.lt_of_le_of_lt (Nat.div_le_self _ _) (by omega)) (by omega) (by omega)
            rw [hx5, hw.2, show i + 1 - (m + 1) = i - (m + 1) + 1 by omega, Nat.pow_succ, ← Nat.div_div_eq_div_mul, ← e9]
            rfl
      · rw [if_neg z] at fin
        have y : w6 = -1 := y
        unfold ngA at fin
        rw [if_pos (by rw [← e6]; exact y)] at fin
        rw [y]; exact fin
    · obtain ⟨N, w5, w6⟩ := s
      obtain ⟨fs, e6, e5, l⟩ := hs
      have fs : FT M N := fs
      have e6 : w6 = (rwN f 0 i (-1, 0)).1 := e6
      have e5 : ¬ (rwN f 0 i (-1, 0)).1 = -1 → w5 = nI (rwN f 0 i (-1, 0)).2 := e5
      have ih := fun s' (z : FT M s'.1 ∧ s'.2.2 = (rwN f 0 (i + 1) (-1, 0)).1 ∧ (¬ (rwN f 0 (i + 1) (-1, 0)).1 = -1 → s'.2.1 = nI (rwN f 0 (i + 1) (-1, 0)).2) ∧ (rwN f 0 (i + 1) (-1, 0)).2 < 1296) => ih s' z
      rw [rwN] at ih
      generalize rwN f 0 i (-1, 0) = U at e6 e5 l ih
      refine h34 _ _ _ _ _ ⟨fun z => absurd z (nI_ge hi (by omega)), fun _ => ?_⟩
      refine sp_paysBy (fs.mo hC) hp hm (by omega) (fun M6 g6 => ?_)
      have ef : vl2 (stM N) p b d i many (pyU (stM N) true p (tvM N) d).1 (0 + (pyU (stM N) true p (tvM N) d).2) = f (0 + i) := by rw [hf, fs.st, fs.tvM, Nat.zero_add]
      rw [ef]
      unfold wp_X12_nightOf_b65
      unfold kpN at ih
      by_cases z : f (0 + i) ≤ w6
      · rw [if_pos (by rw [← e6]; exact z)] at ih
        refine ⟨fun _ => ⟨fun _ x7 hx7 => ?_, fun q => absurd z q⟩, fun q => absurd z q⟩
        rw [hx7, nI_1]
        exact ih (M6, w5, w6) ⟨fs.tr g6, e6, e5, l⟩
      · rw [if_neg (by rw [← e6]; exact z)] at ih
        refine ⟨fun q => absurd q z, fun _ => ⟨fun q => absurd q z, fun _ x7 hx7 => ?_⟩⟩
        rw [hx7, nI_1]
        refine ih (M6, nI i, f (0 + i)) ⟨fs.tr g6, rfl, fun _ => ?_, ?_⟩
        · show nI i = nI (0 + i)
          rw [Nat.zero_add]
        · show 0 + i < 1296
          omega
  refine for_up (S := Int32) (P := fun w i => P6 M w i) (n := many) (fun i w => w = nI (6 ^ i)) (fun w hw => ?_) (fun i w hi hw ih => ?_) 0 (Nat.zero_le _) 1 rfl
  · subst hw
    exact h6 _ _ _ ⟨fun _ => rows M (FT.rf M), fun z => absurd (Int32.le_refl _) z⟩
  · refine h6 _ _ _ ⟨fun z => absurd z (le_n (by omega) hi), fun _ x4 hx4 x5 hx5 => ?_⟩
    rw [hx5, nI_1]
    refine ih x4 ?_
    have e6 : nI (6 ^ i) * (6 : Int32) = nI (6 ^ i * 6) := pk_mul _ 6
    rw [hx4, hw, e6, ← Nat.pow_succ]
theorem ob_night {n : Nat} {M : Mem} (hI : Inv n M) {a b c d : Nat} (hC : CO M 59 a b c d) (hM : MO M a b c d) (hT : TOK (tvM M) a c) {p many : Nat} (hp : p < c) (hm : many ≤ 4) {v : Int32} (hv : v = 0 ∨ ∃ m, m ≤ 3 ∧ v = nI (10 + m)) : OB (fun P M => wp_X11_night P M (nI p) (nI many) v) (fun P M => wp_X12_nightOf P M (nI p) (nI many) v) M := by
  have hB := hC.2.2.2.2.1
  have hB2 := hB
  unfold BD at hB
  have vp : vp_in (nI p) c := vp_in_nI hp (by omega)
  refine ⟨ngR (ngt (stM M) p b d many (tvM M)) many v, fun M1 P f h => ?_, fun M1 P f h => ?_⟩
  · have hC1 := (f.both hI hC hM).1
    have hs := f.cs hI
    have ht := f.ct hI
    obtain ⟨s, s1, s2, s3, s4, s5, s6⟩ := (f.inv hI).sees hC1
    have key : wp_X11_night_b39 P (nI p) (nI many) v M1 := by
      refine sp_search hC1 (by omega) hm (by rw [ht]; exact hT.2) s5 (fun M4 f4 x4 st => ?_)
      rw [hs, ht] at st
      have h := h M4 f4 x4
      unfold ngR at h
      refine ⟨fun z => ?_, fun z => ?_⟩
      · rw [if_neg z] at h
        rcases hv with e | ⟨m, hm3, e⟩
        · exact absurd e z
        · rw [e, v10] at h ⊢
          rw [cl4 (by omega)] at h
          exact sp_doorAt hm (by omega) st h
      · rw [if_pos z] at h
        rw [st.1]; exact h
    show wp_X11_night P M1 (nI p) (nI many) v
    unfold wp_X11_night
    rw [eq_isNobody hC1.2.2.1 (by omega)]
    refine ⟨fun _ => ⟨fun _ => ⟨fun z => absurd z (nI_pos (by omega)), fun _ => ⟨fun z => absurd z (nI_nlt (a := 4) (b := many) hm (by omega)), fun _ => ⟨fun _ => key, fun z => ?_⟩⟩⟩, fun z => absurd rfl z⟩, fun z => absurd vp z⟩
    rcases hv with e | ⟨m, hm3, e⟩
    · exact absurd e z
    · refine ⟨fun q => absurd q (by rw [e]; exact nI_nlt (a := 10 + m) (b := 10) (by omega) (by omega)), fun _ => ⟨fun _ => key, fun q => absurd (by rw [e]; exact nI_le (a := 10 + m) (b := 13) (by omega) (by omega)) q⟩⟩
  · have hM1 := (f.both hI hC hM).2
    refine sp_nightOf hM1 (by omega) hm hv (fun M' f' => ?_)
    rw [f.st, f.tv]
    exact h M' f'.fr f'.2
theorem ob_night' {n : Nat} {M : Mem} (hI : Inv n M) (v1 v2 v3 : Int32) : OB (fun P M => wp_X11_night P M v1 v2 v3) (fun P M => wp_X12_night P M v1 v2 v3) M := by
  obtain ⟨a, b, c, d, hC, hM, hT⟩ := hI.both
  have hB := hC.2.2.2.2.1
  unfold BD at hB
  by_cases hp : vp_in v1 c
  · have i1 := in_iff (v := v2) (b := 0) (c := 4) (lo := 0) (hi := 4) (by decide) (by decide)
    have i2 := in_iff (v := v3) (b := 10) (c := 13) (lo := 10) (hi := 13) (by decide) (by decide)
    by_cases good : (0 ≤ v2.toInt ∧ v2.toInt ≤ 4) ∧ (v3 = 0 ∨ 10 ≤ v3.toInt ∧ v3.toInt ≤ 13)
    · obtain ⟨g1, g2⟩ := good
      obtain ⟨p, hp1, rfl⟩ := vp_ex hp (by omega)
      obtain ⟨many, hm, rfl⟩ := vp_ex (v := v2) (n := 5) (vp_iff.mpr (by omega)) (by omega)
      have hv2 : v3 = 0 ∨ ∃ m, m ≤ 3 ∧ v3 = nI (10 + m) := by
        rcases g2 with e | e
        · exact Or.inl e
        · obtain ⟨x, hx, rfl⟩ := vp_ex (v := v3) (n := 14) (vp_iff.mpr (by omega)) (by omega)
          rw [nI_toInt (by omega)] at e
          exact Or.inr ⟨x - 10, by omega, by rw [show 10 + (x - 10) = x by omega]⟩
      refine (ob_night hI hC hM hT hp1 (by omega) hv2).mdl (fun M1 P f h => ?_)
      have hM1 := (f.both hI hC hM).2
      unfold wp_X12_night
      rw [eq_isPerson hM1.2.2.1 (by omega)]
      refine ⟨fun _ => ⟨fun _ => ?_, fun z => absurd z (by decide)⟩, fun z => absurd hp z⟩
      rw [eq_in, if_pos (i1.mpr g1)]
      refine ⟨fun z => absurd z (by decide), fun _ => ⟨fun _ => h, fun z => ?_⟩⟩
      rw [eq_in]
      rcases g2 with e | e
      · exact absurd e z
      · rw [if_pos (i2.mpr e)]
        exact ⟨fun z => absurd z (by decide), fun _ => h⟩
    · have l0 : v2 < 0 ↔ v2.toInt < 0 := lt0_iff
      have l4 : 4 < v2 ↔ 4 < v2.toInt := by rw [Int32.lt_iff_toInt_lt]; rfl
      have l10 : v3 < 10 ↔ v3.toInt < 10 := by rw [Int32.lt_iff_toInt_lt]; rfl
      have l13 : v3 ≤ 13 ↔ v3.toInt ≤ 13 := by rw [Int32.le_iff_toInt_le]; rfl
      refine OB.one (-102) (fun M1 P f h => ?_) (fun M1 P f h => ?_)
      · have hC1 := (f.both hI hC hM).1
        unfold wp_X11_night
        rw [eq_isNobody hC1.2.2.1 (by omega)]
        refine ⟨fun _ => ⟨fun _ => ⟨fun _ => h, fun y1 => ⟨fun _ => h, fun y2 => ⟨fun y3 => ?_, fun y3 => ⟨fun _ => h, fun y4 => ⟨fun y5 => ?_, fun _ => h⟩⟩⟩⟩⟩, fun z => absurd rfl z⟩, fun z => absurd hp z⟩
        · rw [l0] at y1
          rw [l4] at y2
          exact absurd ⟨⟨by omega, by omega⟩, Or.inl y3⟩ good
        · rw [l0] at y1
          rw [l4] at y2
          rw [l10] at y4
          rw [l13] at y5
          exact absurd ⟨⟨by omega, by omega⟩, Or.inr ⟨by omega, by omega⟩⟩ good
      · have hM1 := (f.both hI hC hM).2
        unfold wp_X12_night
        rw [eq_isPerson hM1.2.2.1 (by omega)]
        refine ⟨fun _ => ⟨fun _ => ?_, fun z => absurd z (by decide)⟩, fun z => absurd hp z⟩
        rw [eq_in]
        by_cases k1 : (0 : Int64) ≤ v2.toInt64 ∧ v2.toInt64 ≤ 4
        · rw [if_pos k1]
          refine ⟨fun z => absurd z (by decide), fun _ => ⟨fun z => absurd ⟨i1.mp k1, Or.inl z⟩ good, fun z => ?_⟩⟩
          rw [eq_in]
          by_cases k2 : (10 : Int64) ≤ v3.toInt64 ∧ v3.toInt64 ≤ 13
          · exact absurd ⟨i1.mp k1, Or.inr (i2.mp k2)⟩ good
          · rw [if_neg k2]
            exact ⟨fun _ => h, fun z => absurd rfl z⟩
        · rw [if_neg k1]
          exact ⟨fun _ => h, fun z => absurd rfl z⟩
  · refine OB.one (-101) (fun M1 P f h => ?_) (fun M1 P f h => ?_)
    · have hC1 := (f.both hI hC hM).1
      unfold wp_X11_night
      rw [eq_isNobody hC1.2.2.1 (by omega)]
      exact ⟨fun z => absurd z hp, fun _ => ⟨fun z => absurd z (by decide), fun _ => h⟩⟩
    · have hM1 := (f.both hI hC hM).2
      unfold wp_X12_night
      rw [eq_isPerson hM1.2.2.1 (by omega)]
      exact ⟨fun z => absurd z hp, fun _ => ⟨fun z => absurd rfl z, fun _ => h⟩⟩
