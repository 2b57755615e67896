/-! ===== which debt to press; person ===== -/
def bcF (v : Int32) : Int32 :=
  let x1 := v - (((v.toUInt32 >>> ((1 : Int32).toUInt32 &&& Int32.toUInt32 31)).toInt32) &&& 1431655765)
  let x2 := (x1 &&& 858993459) + (((x1.toUInt32 >>> ((2 : Int32).toUInt32 &&& Int32.toUInt32 31)).toInt32) &&& 858993459)
  let x3 := (x2 + ((x2.toUInt32 >>> ((4 : Int32).toUInt32 &&& Int32.toUInt32 31)).toInt32)) &&& 252645135
  let x4 := x3 + ((x3.toUInt32 >>> ((8 : Int32).toUInt32 &&& Int32.toUInt32 31)).toInt32)
  let x5 := x4 + ((x4.toUInt32 >>> ((16 : Int32).toUInt32 &&& Int32.toUInt32 31)).toInt32)
  x5 &&& 63
theorem sp_bc {Post : Int32 → Mem → Prop} {M : Mem} {v : Int32} (h : Post (bcF v) M) : wp_J6_bitCount_0f7a4 Post M v := by
  rintro x1 rfl x2 rfl x3 rfl x4 rfl x5 rfl
  exact h
theorem bc_key : ∀ b0 b1 b2 b3 b4 b5 b6 b7 b8 b9 : Bool, bcF (orU (fun j => [b0, b1, b2, b3, b4, b5, b6, b7, b8, b9].getD j false) 10) = sumU (fun j => if [b0, b1, b2, b3, b4, b5, b6, b7, b8, b9].getD j false = true then 1 else 0) 10 := by decide +kernel
theorem sum_cg {f g : Nat → Int32} : ∀ {n : Nat}, (∀ j, j < n → f j = g j) → sumU f n = sumU g n := by
  intro n
  induction n with
  | zero => intro _; rfl
  | succ n ih => intro h; rw [sumU, sumU, ih (fun j hj => h j (by omega)), h n (by omega)]
theorem sum_add (f g : Nat → Int32) : ∀ n, sumU (fun j => f j + g j) n = sumU f n + sumU g n := by
  intro n
  induction n with
  | zero => rfl
  | succ n ih => rw [sumU, sumU, sumU, ih]; ac_rfl
theorem bc_or (g : Nat → Bool) : bcF (orU g 10) = sumU (fun j => if g j = true then 1 else 0) 10 := by
  have e : ∀ j, j < 10 → g j = [g 0, g 1, g 2, g 3, g 4, g 5, g 6, g 7, g 8, g 9].getD j false := by
    intro j hj
    rcases (by omega : j = 0 ∨ j = 1 ∨ j = 2 ∨ j = 3 ∨ j = 4 ∨ j = 5 ∨ j = 6 ∨ j = 7 ∨ j = 8 ∨ j = 9) with rfl | rfl | rfl | rfl | rfl | rfl | rfl | rfl | rfl | rfl <;> rfl
  rw [or_cg e (by omega), bc_key]
  exact sum_cg (fun j hj => by rw [← e j hj])
def bitU (f : Nat → Bool) (j : Nat) : Int32 := if f j = true then 1 else 0
def yesU (f : Nat → Bool) (e n : Nat) : Int32 := sumU (fun j => if j < e then 0 else bitU f j) n
def noU (f : Nat → Bool) (e n : Nat) : Int32 := sumU (fun j => if j < e then bitU f j else 0) n
theorem bc_no {f : Nat → Bool} {e : Nat} (he : e < 11) : bcF (orU f 10 &&& (((1 : Int32) <<< (nI e &&& 31)) - 1)) = noU f e 10 := by
  rw [or_msk he, bc_or]
  refine sum_cg (fun j hj => ?_)
  unfold bitU
  by_cases h : j < e
  · rw [if_pos h, decide_eq_true h, Bool.and_true]
  · rw [if_neg h, decide_eq_false h, Bool.and_false]; rfl
theorem bc_all (f : Nat → Bool) (e : Nat) : bcF (orU f 10) = noU f e 10 + yesU f e 10 := by
  rw [bc_or]
  unfold noU yesU
  rw [← sum_add]
  refine sum_cg (fun j hj => ?_)
  show bitU f j = _
  by_cases h : j < e
  · rw [if_pos h, if_pos h]; simp
  · rw [if_neg h, if_neg h]; simp
theorem bc_yes (f : Nat → Bool) (e : Nat) : bcF (orU f 10) - noU f e 10 = yesU f e 10 := by
  rw [bc_all f e, Int32.add_comm, Int32.add_sub_cancel]
def wst (f : Nat → Bool) (e : Nat) : Int32 := if noU f e 10 < yesU f e 10 then yesU f e 10 else noU f e 10
def prU (H : Nat → Nat → Int32) (f : Nat → Bool) (p : Nat) : Nat → Int32 × Int32
  | 0 => (-1, 11)
  | k + 1 => if H 5 k = nI p ∧ ¬ (prU H f p k).2 ≤ wst f (cosH H k).toNatClampNeg then (nI k, wst f (cosH H k).toNatClampNeg) else prU H f p k
theorem sp_debtToPress {Post : Int32 → Mem → Prop} {M : Mem} {o a b c d s p : Nat} (hC : CO M o a b c d) (hs : s ≤ 6) (e8 : rd M o 8 = nI s) (hd : ∀ j, j < s → ∃ x, x < d ∧ rd M (o + 6) j = nI x) (h : Post (if orU (okU (stC M o) (rd M (o + 6)) (rd M (o + 7)) p s) 10 = 0 then -1 else (prU (stC M o) (okU (stC M o) (rd M (o + 6)) (rd M (o + 7)) p s) p d).1) M) : wp_X0_debtToPress Post M o (nI p) := by
  intro P15 h15
  have hB := hC.2.2.2.2.1
  have hB2 := hB
  unfold BD at hB
  refine sp_purseBits hC hs e8 hd ?_
  generalize okU (stC M o) (rd M (o + 6)) (rd M (o + 7)) p s = f at h ⊢
  by_cases hb : orU f 10 = 0
  · rw [if_pos hb] at h
    exact h15 _ _ _ _ _ ⟨fun _ => h, fun _ => ⟨fun _ => h, fun z => absurd hb z⟩⟩
  rw [if_neg hb] at h
  refine for_up (S := Int32 × Int32) (P := fun t i => P15 M (orU f 10) t.1 t.2 i) (n := d) (fun i t => t = prU (stC M o) f p i) (fun t ht => ?_) (fun i t hi ht ih => ?_) 0 (Nat.zero_le _) (-1, 11) rfl
  · subst ht
    exact h15 _ _ _ _ _ ⟨fun _ => h, fun z => absurd (by rw [hC.2.2.2.1]; exact Int32.le_refl _) z⟩
  · subst ht
    refine h15 _ _ _ _ _ ⟨fun z => absurd z (by rw [hC.2.2.2.1]; exact le_n (by omega) hi), fun _ => ⟨fun z => absurd z hb, fun _ => ?_⟩⟩
    have n1 := cl4 (p := i) (by omega)
    obtain ⟨e, he1, he2, he⟩ := cos_lt hB2 hC.2.2.2.2.2 hi
    have n2 := cl4 (p := e) (by omega)
    have e5 : stC M o 5 i = rd M 8 i := rfl
    have step := ih (prU (stC M o) f p (i + 1)) rfl
    rw [prU, he, n2, e5] at step
    rw [n1]
    refine ⟨vp_in_nI (by omega) (by omega), fun z => ?_, fun z x5 hx5 => ?_⟩
    · rw [eqc_poor hC hi, he]
      refine sp_bc (sp_bc ?_)
      rw [bc_no (by omega), bc_yes]
      intro x7 hx7
      have hx7 : x7 = wst f e := hx7
      rw [hx7]
      refine ⟨fun y x5 hx5 => ?_, fun y x5 hx5 => ?_⟩
      · rw [if_neg (fun t => t.2 y)] at step
        rw [hx5, nI_1]; exact step
      · rw [if_pos ⟨z, y⟩] at step
        rw [hx5, nI_1]; exact step
    · rw [if_neg (fun t => z t.1)] at step
      rw [hx5, nI_1]; exact step
theorem sp_pressOf {Post : Int32 → Mem → Prop} {M : Mem} {a b c d s p : Nat} (hC : MO M a b c d) (hs : s ≤ 6) (e8 : rd M 29 31 = nI s) (hd : ∀ j, j < s → ∃ x, x < d ∧ rd M 52 (2 * j) = nI x) (hz : ∀ j, j < s → zb (rd M 52 (2 * j + 1))) (h : Post (if orU (okU (stM M) (fun i => rd M 52 (2 * i)) (fun i => rd M 52 (2 * i + 1)) p s) 10 = 0 then -1 else (prU (stM M) (okU (stM M) (fun i => rd M 52 (2 * i)) (fun i => rd M 52 (2 * i + 1)) p s) p d).1) M) : wp_X12_pressOf Post M (nI p) := by
  intro P15 P37 h15 h37
  have hB := hC.2.2.2.2.1
  have hB2 := hB
  unfold BD at hB
  refine sp_pursesOf hC hs e8 hd hz ?_
  generalize okU (stM M) (fun i => rd M 52 (2 * i)) (fun i => rd M 52 (2 * i + 1)) p s = f at h ⊢
  by_cases hb : orU f 10 = 0
  · rw [if_pos hb] at h
    exact h15 _ _ _ _ _ ⟨fun _ => h, fun _ => ⟨fun _ => h, fun z => absurd hb z⟩⟩
  rw [if_neg hb] at h
  refine for_up (S := Int32 × Int32) (P := fun t i => P15 M (orU f 10) t.1 t.2 i) (n := d) (fun i t => t = prU (stM M) f p i) (fun t ht => ?_) (fun i t hi ht ih => ?_) 0 (Nat.zero_le _) (-1, 11) rfl
  · subst ht
    exact h15 _ _ _ _ _ ⟨fun _ => h, fun z => absurd (by rw [hC.2.2.2.1]; exact Int32.le_refl _) z⟩
  · subst ht
    refine h15 _ _ _ _ _ ⟨fun z => absurd z (by rw [hC.2.2.2.1]; exact le_n (by omega) hi), fun _ => ⟨fun z => absurd z hb, fun _ => ?_⟩⟩
    have n1 := cl4 (p := i) (by omega)
    obtain ⟨e, he1, he2, he⟩ := cos_lt hB2 hC.2.2.2.2.2 hi
    have n2 := cl4 (p := e) (by omega)
    have e5 : stM M 5 i = rd M 38 i := rfl
    have step := ih (prU (stM M) f p (i + 1)) rfl
    rw [prU, he, n2, e5] at step
    have b116 : wp_X12_pressOf_b116 Post (nI p) P15 P37 M (orU f 10) (prU (stM M) f p i).1 (prU (stM M) f p i).2 (nI i) (wst f e) := by
      unfold wp_X12_pressOf_b116
      rw [n1]
      refine ⟨vp_in_nI (by omega) (by omega), fun z x5 hx5 => ?_, fun z => ⟨fun y x5 hx5 => ?_, fun y x5 hx5 => ?_⟩⟩
      · rw [if_neg (fun t => z t.1)] at step
        rw [hx5, nI_1]; exact step
      · rw [if_neg (fun t => t.2 y)] at step
        rw [hx5, nI_1]; exact step
      · rw [if_pos ⟨z, y⟩] at step
        rw [hx5, nI_1]; exact step
    refine for_up (S := Int32 × Int32) (P := fun t j => P37 M (orU f 10) (prU (stM M) f p i).1 (prU (stM M) f p i).2 (nI i) t.1 t.2 j) (n := 10) (fun j t => t = (yesU f e j, noU f e j)) (fun t ht => ?_) (fun j t hj ht ih2 => ?_) 0 (Nat.zero_le _) (0, 0) rfl
    · subst ht
      refine h37 _ _ _ _ _ _ _ _ ⟨fun _ => ⟨fun z => ?_, fun z => ?_⟩, fun z => absurd (Int32.le_refl _) z⟩
      · have : wst f e = noU f e 10 := if_neg (fun y => by
          have y1 := Int32.lt_iff_toInt_lt.mp y
          have y2 := Int32.le_iff_toInt_le.mp z
          have y2 : (yesU f e 10).toInt ≤ (noU f e 10).toInt := y2
          omega)
        rw [this] at b116
        exact b116
      · have : wst f e = yesU f e 10 := if_pos (Int32.lt_iff_toInt_lt.mpr (by
          have y2 : ¬ (yesU f e 10).toInt ≤ (noU f e 10).toInt := fun y => z (Int32.le_iff_toInt_le.mpr y)
          omega))
        rw [this] at b116
        exact b116
    · subst ht
      have step2 := ih2 (yesU f e (j + 1), noU f e (j + 1)) rfl
      refine h37 _ _ _ _ _ _ _ _ ⟨fun z => absurd z (le_n (n := 10) (by omega) hj), fun _ => ?_⟩
      have ql : nI j < nI e ↔ j < e := nI_ltI (by omega) (by omega)
      have qe : nI e ≤ nI j ↔ e ≤ j := nI_leI (by omega) (by omega)
      have y1 : yesU f e (j + 1) = yesU f e j + (if j < e then 0 else bitU f j) := rfl
      have y2 : noU f e (j + 1) = noU f e j + (if j < e then bitU f j else 0) := rfl
      rw [y1, y2] at step2
      unfold wp_X12_pressOf_b67
      simp only [eqm_cost hC hi, he, or_bit hj, ql, qe]
      by_cases g : j < e
      · rw [if_pos g, if_pos g] at step2
        refine ⟨fun _ x6 hx6 => ⟨fun z => absurd z (by omega), fun _ x7 hx7 x8 hx8 => ?_⟩, fun z => absurd g z⟩
        rw [hx6, hx7, hx8, nI_1]; exact step2
      · rw [if_neg g, if_neg g] at step2
        refine ⟨fun z => absurd z g, fun _ x6 hx6 => ⟨fun _ x7 hx7 x8 hx8 => ?_, fun z => absurd (by omega) z⟩⟩
        rw [hx6, hx7, hx8, nI_1]; exact step2
theorem Inv.sees {n : Nat} {M : Mem} (hI : Inv n M) {a b c d : Nat} (hC : CO M 59 a b c d) : ∃ s, s ≤ 6 ∧ rd M 59 8 = nI s ∧ rd M 29 31 = nI s ∧ (∀ j, j < s → ∃ x, x < d ∧ rd M 65 j = nI x) ∧ (∀ j, j < 6 → zb (rd M 66 j)) ∧ ∀ j, j < 6 → rd M 65 j = rd M 52 (2 * j) ∧ rd M 66 j = rd M 52 (2 * j + 1) := by
  obtain ⟨-, a', b', c', d', hc', hw', hr', ha', haw', -⟩ := hI
  rw [arl] at ha'
  rw [awl] at haw'
  have hB := hC.2.2.2.2.1
  unfold BD at hB
  have ed : d' = d := (nI_eq (by have := hc'.2.2.2.2.2.2.2.2.2.2.2.1; omega) (by omega)).mp (hc'.2.2.2.1.symm.trans hC.2.2.2.1)
  subst ed
  obtain ⟨s, s1, s2, s3⟩ := haw'.2.2.2.2.1
  exact ⟨s, s1, s2, ha'.2.2.2.2.2.1 ▸ s2, s3, haw'.2.2.2.2.2.1, ha'.2.2.2.2.2.2.2⟩
theorem ok_cg {H : Nat → Nat → Int32} {sd sc sd' sc' : Nat → Int32} {p : Nat} : ∀ {n : Nat}, (∀ i, i < n → sd i = sd' i ∧ sc i = sc' i) → okU H sd sc p n = okU H sd' sc' p n := by
  intro n
  induction n with
  | zero => intro _; rfl
  | succ n ih =>
    intro h
    funext j
    rw [okU, okU, ih (fun i hi => h i (by omega)), (h n (by omega)).1, (h n (by omega)).2]
theorem ob_person {n : Nat} {M : Mem} (hI : Inv n M) {a b c d : Nat} (hC : CO M 59 a b c d) (hM : MO M a b c d) {p : Nat} (hp : p < c) (v : Int32) : OB (fun P M => wp_X11_person P M (nI p) v) (fun P M => wp_X12_tellPerson P M (nI p) v) M := by
  have hB := hC.2.2.2.2.1
  unfold BD at hB
  obtain ⟨s, s1, s2, s3, s4, s5, s6⟩ := hI.sees hC
  have n1 := cl4 (p := p) (by omega)
  have v4 : vp_in (nI p) 4 = True := in_n (by omega) (by omega)
  have vd : vp_in (nI p) c := vp_in_nI hp (by omega)
  have hp4 : p < 4 := by omega
  have go : ∀ r : Int32, (∀ (M1 : Mem) (P : Int32 → Mem → Prop), CO M1 59 a b c d → stC M1 59 = stM M → tvC M1 59 = tvM M → (∀ q, core q → rd M1 q = rd M q) → P r M1 → (v = 0 → wpv_number P M1 (11 + p)) ∧ (v = 1 → P (rd M1 60 p) M1) ∧ (v = 2 → P (rd M1 61 p) M1) ∧ (v = 3 → wp_X0_keyBits P M1 59 (nI p)) ∧ (v = 4 → wp_X0_doorBits P M1 59 (nI p)) ∧ (v = 5 → wp_X0_payableBits P M1 59 (nI p)) ∧ (v = 6 → wp_X0_standing P M1 59 (nI p)) ∧ (v = 7 → wp_X0_purseBits P M1 59 (nI p)) ∧ (v = 8 → wp_X0_debtToPress P M1 59 (nI p)) ∧ (¬ v = 0 → ¬ v = 1 → ¬ v = 2 → ¬ v = 3 → ¬ v = 4 → ¬ v = 5 → ¬ v = 6 → ¬ v = 7 → ¬ v = 8 → P (-102) M1)) → (∀ (M1 : Mem) (P : Int32 → Mem → Prop), MO M1 a b c d → stM M1 = stM M → tvM M1 = tvM M → (∀ q, core q → rd M1 q = rd M q) → rd M1 29 31 = rd M 29 31 → (∀ M', FT M1 M' → P r M') → wp_X12_tellPerson P M1 (nI p) v) → OB (fun P M => wp_X11_person P M (nI p) v) (fun P M => wp_X12_tellPerson P M (nI p) v) M := by
    intro r h1 h2
    refine ⟨r, fun M1 P f h => ?_, fun M1 P f h => ?_⟩
    · have hC1 := (f.both hI hC hM).1
      have g := h1 M1 P hC1 (f.cs hI) (f.ct hI) (fun q hq => funext (f.1 q hq)) (h M1 (Fr.rf _) rfl)
      show wp_X11_person P M1 (nI p) v
      unfold wp_X11_person
      rw [eq_isNobody hC1.2.2.1 (by omega)]
      refine ⟨fun _ => ⟨fun _ => ?_, fun z => absurd rfl z⟩, fun z => absurd vd z⟩
      simp only [n1, v4, true_and]
      exact g
    · exact h2 M1 P (f.both hI hC hM).2 f.st f.tv (fun q hq => funext (f.1 q hq)) (f.2.2 31 (by unfold slots29; omega)) (fun M' g => h M' g.fr g.2)
  by_cases x0 : v = 0
  · subst x0
    refine go (stM M 3 p) (fun M1 P g1 g2 g3 g4 h => ?_) (fun M1 P g1 g2 g3 g4 g5 h => ?_)
    · have hk : rd M1 (11 + p) 0 = stM M 3 p := by rw [← g2]; exact (cut_lt (f := kd M1) hp4).symm
      have hk5 := k5 (hM.2.2.2.2.2.2.1 p hp4)
      simp
      unfold wpv_number wp_X8_number wp_X1_number wp_X3_number wp_X2_number wp_X7_number
      rw [hk]
      rcases hk5 with e | e | e | e | e <;> rw [e] at h ⊢ <;> simp <;> exact h
    · have hk : rd M1 34 p = stM M 3 p := by rw [← g2]; exact (cut_lt hp4).symm
      unfold wp_X12_tellPerson
      simp [v4, n1]
      rw [hk]; exact h M1 (FT.rf _)
  by_cases x1 : v = 1
  · subst x1
    refine go ((tvM M).1 p) (fun M1 P g1 g2 g3 g4 h => ?_) (fun M1 P g1 g2 g3 g4 g5 h => ?_)
    · have hk : rd M1 60 p = (tvM M).1 p := by rw [← g3]; exact (cut_lt hp4).symm
      simp
      rw [hk]; exact h
    · have hk : rd M1 35 p = (tvM M).1 p := by rw [← g3]; exact (cut_lt hp4).symm
      unfold wp_X12_tellPerson
      simp [v4, n1]
      rw [hk]; exact h M1 (FT.rf _)
  by_cases x2 : v = 2
  · subst x2
    refine go ((tvM M).2.1 p) (fun M1 P g1 g2 g3 g4 h => ?_) (fun M1 P g1 g2 g3 g4 g5 h => ?_)
    · have hk : rd M1 61 p = (tvM M).2.1 p := by rw [← g3]; exact (cut_lt hp4).symm
      simp
      rw [hk]; exact h
    · have hk : rd M1 36 p = (tvM M).2.1 p := by rw [← g3]; exact (cut_lt hp4).symm
      unfold wp_X12_tellPerson
      simp [v4, n1]
      rw [hk]; exact h M1 (FT.rf _)
  by_cases x3 : v = 3
  · subst x3
    refine go (orU (fun k => decide (stM M 4 k = nI p)) 2) (fun M1 P g1 g2 g3 g4 h => ?_) (fun M1 P g1 g2 g3 g4 g5 h => ?_)
    · simp
      refine sp_keyBits ?_
      rw [g2]; exact h
    · unfold wp_X12_tellPerson
      simp
      refine sp_keysOf ?_
      rw [g2]; exact h M1 (FT.rf _)
  by_cases x4 : v = 4
  · subst x4
    refine go (orU (fun k => goB (stM M) p k ((tvM M).2.1 p)) b) (fun M1 P g1 g2 g3 g4 h => ?_) (fun M1 P g1 g2 g3 g4 g5 h => ?_)
    · simp
      refine sp_doorBits g1 hp4 ?_
      rw [g2, g3]; exact h
    · unfold wp_X12_tellPerson
      simp
      refine sp_doorsOf g1 hp4 ?_
      rw [g2, g3]; exact h M1 (FT.rf _)
  by_cases x5 : v = 5
  · subst x5
    refine go (orU (fun k => decide (stM M 5 k = nI p) && mayB (stM M) (tvM M) k) d) (fun M1 P g1 g2 g3 g4 h => ?_) (fun M1 P g1 g2 g3 g4 g5 h => ?_)
    · simp
      refine sp_payableBits g1 ?_
      rw [g2, g3]; exact h
    · unfold wp_X12_tellPerson
      simp
      refine sp_mayPayM g1 ?_
      rw [g2, g3]; exact h
  by_cases x6 : v = 6
  · subst x6
    refine go (stdU (stM M) (tvM M) p d) (fun M1 P g1 g2 g3 g4 h => ?_) (fun M1 P g1 g2 g3 g4 g5 h => ?_)
    · simp
      refine sp_standing g1 hp4 ?_
      rw [g2, g3]; exact h
    · unfold wp_X12_tellPerson
      simp
      refine sp_standingM g1 hp4 ?_
      rw [g2, g3]; exact h M1 (FT.rf _)
  have ok : okU (stM M) (rd M 65) (rd M 66) p s = okU (stM M) (fun i => rd M 52 (2 * i)) (fun i => rd M 52 (2 * i + 1)) p s := ok_cg (fun i hi => s6 i (by omega))
  have f52 : ∀ j, j < s → ∃ x, x < d ∧ rd M 52 (2 * j) = nI x := fun j hj => by rw [← (s6 j (by omega)).1]; exact s4 j hj
  have z52 : ∀ j, j < s → zb (rd M 52 (2 * j + 1)) := fun j hj => by rw [← (s6 j (by omega)).2]; exact s5 j (by omega)
  by_cases x7 : v = 7
  · subst x7
    refine go (orU (okU (stM M) (fun i => rd M 52 (2 * i)) (fun i => rd M 52 (2 * i + 1)) p s) 10) (fun M1 P g1 g2 g3 g4 h => ?_) (fun M1 P g1 g2 g3 g4 g5 h => ?_)
    · have e59 := g4 59 (by unfold core; omega)
      have e65 := g4 65 (by unfold core; omega)
      have e66 := g4 66 (by unfold core; omega)
      simp
      refine sp_purseBits (s := s) g1 s1 (by rw [e59]; exact s2) (by show ∀ j, j < s → ∃ x, x < d ∧ rd M1 65 j = nI x; rw [e65]; exact s4) ?_
      show P (orU (okU (stC M1 59) (rd M1 65) (rd M1 66) p s) 10) M1
      rw [g2, e65, e66, ok]; exact h
    · have e52 := g4 52 (by unfold core; omega)
      unfold wp_X12_tellPerson
      simp
      refine sp_pursesOf (s := s) g1 s1 (by rw [g5]; exact s3) (by rw [e52]; exact f52) (by rw [e52]; exact z52) ?_
      rw [g2, e52]; exact h M1 (FT.rf _)
  by_cases x8 : v = 8
  · subst x8
    refine go (if orU (okU (stM M) (fun i => rd M 52 (2 * i)) (fun i => rd M 52 (2 * i + 1)) p s) 10 = 0 then -1 else (prU (stM M) (okU (stM M) (fun i => rd M 52 (2 * i)) (fun i => rd M 52 (2 * i + 1)) p s) p d).1) (fun M1 P g1 g2 g3 g4 h => ?_) (fun M1 P g1 g2 g3 g4 g5 h => ?_)
    · have e59 := g4 59 (by unfold core; omega)
      have e65 := g4 65 (by unfold core; omega)
      have e66 := g4 66 (by unfold core; omega)
      simp
      refine sp_debtToPress (s := s) g1 s1 (by rw [e59]; exact s2) (by show ∀ j, j < s → ∃ x, x < d ∧ rd M1 65 j = nI x; rw [e65]; exact s4) ?_
      show P (if orU (okU (stC M1 59) (rd M1 65) (rd M1 66) p s) 10 = 0 then -1 else (prU (stC M1 59) (okU (stC M1 59) (rd M1 65) (rd M1 66) p s) p d).1) M1
      rw [g2, e65, e66, ok]; exact h
    · have e52 := g4 52 (by unfold core; omega)
      unfold wp_X12_tellPerson
      simp
      refine sp_pressOf (s := s) g1 s1 (by rw [g5]; exact s3) (by rw [e52]; exact f52) (by rw [e52]; exact z52) ?_
      rw [g2, e52]; exact h M1 (FT.rf _)
  refine go (-102) (fun M1 P g1 g2 g3 g4 h => ?_) (fun M1 P g1 g2 g3 g4 g5 h => ?_)
  · simp [x0, x1, x2, x3, x4, x5, x6, x7, x8, h]
  · have h := h M1 (FT.rf _)
    unfold wp_X12_tellPerson
    simp [x0, x1, x2, x3, x4, x5, x6, x7, x8, h]
theorem ob_person' {n : Nat} {M : Mem} (hI : Inv n M) (v1 v2 : Int32) : OB (fun P M => wp_X11_person P M v1 v2) (fun P M => wp_X12_person P M v1 v2) M := by
  obtain ⟨a, b, c, d, hC, hM, hT⟩ := hI.both
  have hB := hC.2.2.2.2.1
  unfold BD at hB
  by_cases hd : vp_in v1 c
  · obtain ⟨k, hk, rfl⟩ := vp_ex hd (by omega)
    refine (ob_person hI hC hM hk v2).mdl (fun M1 P f h => ?_)
    have hM1 := (f.both hI hC hM).2
    unfold wp_X12_person
    rw [eq_isPerson hM1.2.2.1 (by omega)]
    exact ⟨fun _ => ⟨fun z => absurd z (by decide), fun _ => h⟩, fun z => absurd hd z⟩
  · refine OB.one (-101) (fun M1 P f h => ?_) (fun M1 P f h => ?_)
    · have hC1 := (f.both hI hC hM).1
      unfold wp_X11_person
      rw [eq_isNobody hC1.2.2.1 (by omega)]
      exact ⟨fun z => absurd z hd, fun _ => ⟨fun z => absurd z (by decide), fun _ => h⟩⟩
    · have hM1 := (f.both hI hC hM).2
      unfold wp_X12_person
      rw [eq_isPerson hM1.2.2.1 (by omega)]
      exact ⟨fun z => absurd z hd, fun _ => ⟨fun _ => h, fun z => absurd rfl z⟩⟩
