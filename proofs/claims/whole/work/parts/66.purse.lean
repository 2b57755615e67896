/-! ===== bits (out of the kit's rows to paste) ===== -/
def bt (x : Int32) (i : Nat) : Bool := x.toBitVec.getLsbD i
theorem b_ext {x y : Int32} (h : ∀ i, i < 32 → bt x i = bt y i) : x = y := Int32.toBitVec_inj.mp (BitVec.eq_of_getLsbD_eq (fun i hi => h i hi))
theorem b_or (x y : Int32) (i : Nat) : bt (x ||| y) i = (bt x i || bt y i) := by unfold bt; rw [Int32.toBitVec_or, BitVec.getLsbD_or]
theorem b_and (x y : Int32) (i : Nat) : bt (x &&& y) i = (bt x i && bt y i) := by unfold bt; rw [Int32.toBitVec_and, BitVec.getLsbD_and]
theorem b_xor (x y : Int32) (i : Nat) : bt (x ^^^ y) i = (bt x i ^^ bt y i) := by unfold bt; rw [Int32.toBitVec_xor, BitVec.getLsbD_xor]
theorem b_m1 : ∀ i, i < 32 → bt (-1) i = true := by decide +kernel
theorem b_0 (i : Nat) : bt 0 i = false := BitVec.getLsbD_zero
theorem s_l : ∀ n, n < 32 → ((nI n &&& 31).toBitVec.smod 32).toNat = n := by decide +kernel
theorem b_sshr (n : Nat) (hn : n < 32) (x : Int32) {i : Nat} (hi : i < 32) : bt (x >>> (nI n &&& 31)) i = if n + i < 32 then bt x (n + i) else bt x 31 := by
  unfold bt
  rw [Int32.toBitVec_shiftRight]
  show (x.toBitVec.sshiftRight ((nI n &&& 31).toBitVec.smod 32).toNat).getLsbD i = _
  rw [s_l n hn, BitVec.getLsbD_sshiftRight, BitVec.msb_eq_getLsbD_last]
  simp [hi]
theorem b_one : ∀ n, n < 32 → ∀ i, i < 32 → bt ((1 : Int32) <<< (nI n &&& 31)) i = decide (i = n) := by decide +kernel
theorem b_msk : ∀ e, e < 11 → ∀ i, i < 32 → bt (((1 : Int32) <<< (nI e &&& 31)) - 1) i = decide (i < e) := by decide +kernel
theorem b_1 : ∀ i, i < 32 → bt 1 i = decide (i = 0) := by decide +kernel
/-! ===== purses that fit ===== -/
theorem or_bt (f : Nat → Bool) {i : Nat} (hi : i < 32) : ∀ n, n ≤ 32 → bt (orU f n) i = (decide (i < n) && f i) := by
  intro n
  induction n with
  | zero => intro _; rw [orU, b_0]; simp
  | succ n ih =>
    intro hn
    have ih := ih (by omega)
    rw [orU]
    by_cases h : f n = true
    · rw [if_pos h, b_or, ih, b_one n (by omega) i hi]
      by_cases e : i = n
      · subst e; simp [h]
      · have e2 : (decide (i < n + 1)) = decide (i < n) := decide_eq_decide.mpr (by omega)
        rw [decide_eq_false e, e2, Bool.or_false]
    · rw [if_neg h, ih]
      by_cases e : i = n
      · subst e
        have h' : f i = false := by cases hh : f i
                                    · rfl
                                    · exact absurd hh h
        rw [h']; simp
      · have e2 : (decide (i < n + 1)) = decide (i < n) := decide_eq_decide.mpr (by omega)
        rw [e2]
theorem or_cg {f g : Nat → Bool} {n : Nat} (h : ∀ j, j < n → f j = g j) (hn : n ≤ 32) : orU f n = orU g n := by
  refine b_ext (fun i hi => ?_)
  rw [or_bt f hi n hn, or_bt g hi n hn]
  by_cases e : i < n
  · rw [h i e]
  · rw [decide_eq_false e]; rfl
theorem or_msk {f : Nat → Bool} {e : Nat} (he : e < 11) : orU f 10 &&& (((1 : Int32) <<< (nI e &&& 31)) - 1) = orU (fun j => f j && decide (j < e)) 10 := by
  refine b_ext (fun i hi => ?_)
  rw [b_and, or_bt f hi 10 (by omega), or_bt _ hi 10 (by omega), b_msk e he i hi, Bool.and_assoc]
theorem or_nmsk {f : Nat → Bool} {e : Nat} (he : e < 11) : orU f 10 &&& ((((1 : Int32) <<< (nI e &&& 31)) - 1) ^^^ (-1)) = orU (fun j => f j && !decide (j < e)) 10 := by
  refine b_ext (fun i hi => ?_)
  rw [b_and, b_xor, or_bt f hi 10 (by omega), or_bt _ hi 10 (by omega), b_msk e he i hi, b_m1 i hi, Bool.and_assoc, Bool.xor_true]
theorem or_all : orU (fun _ => true) 10 = 1023 := by decide +kernel
theorem or_bit {f : Nat → Bool} {j : Nat} (hj : j < 10) : ((orU f 10) >>> (nI j &&& 31)) &&& 1 = if f j = true then 1 else 0 := by
  refine b_ext (fun i hi => ?_)
  rw [b_and, b_sshr j (by omega) _ hi, b_1 i hi]
  by_cases e : i = 0
  · subst e
    rw [if_pos (by omega), or_bt f (by omega) 10 (by omega), Nat.add_zero, decide_eq_true (by omega)]
    by_cases h : f j = true
    · rw [if_pos h, h]; decide
    · rw [if_neg h, b_0]
      cases hh : f j
      · rfl
      · exact absurd hh h
  · rw [decide_eq_false e, Bool.and_false]
    by_cases h : f j = true
    · rw [if_pos h, b_1 i hi, decide_eq_false e]
    · rw [if_neg h, b_0]
def okU (H : Nat → Nat → Int32) (sd sc : Nat → Int32) (p : Nat) : Nat → Nat → Bool
  | 0, _ => true
  | i + 1, j => okU H sd sc p i j && (!decide (H 5 (sd i).toNatClampNeg = nI p) || decide (cosH H (sd i).toNatClampNeg ≤ nI j ↔ ¬ sc i = 0))
theorem cos_lt {H : Nat → Nat → Int32} {a b c d k : Nat} (hB : BD a b c d) (hH : HOK H a b c d) (hk : k < d) : ∃ e, 1 ≤ e ∧ e ≤ 10 ∧ cosH H k = nI e := by
  obtain ⟨x, hx, hx2, hx3⟩ := hH.2.2.2.2 k hk
  unfold cosH cst
  by_cases h : H 3 (H 5 k).toNatClampNeg = 1
  · rw [if_pos h, hx3, nI_1]; exact ⟨x + 1, by omega, by omega, rfl⟩
  · rw [if_neg h, hx3]; exact ⟨x, by omega, by omega, rfl⟩
theorem eqc_poor {Post : Int32 → Mem → Prop} {M : Mem} {o a b c d k : Nat} (hC : CO M o a b c d) (hk : k < d) : wp_X0_tooPoorBits Post M o (nI k) = Post (((1 : Int32) <<< (cosH (stC M o) k &&& 31)) - 1) M := by
  unfold wp_X0_tooPoorBits
  rw [eqc_cost hC hk]
theorem sp_purseBits {Post : Int32 → Mem → Prop} {M : Mem} {o a b c d s p : Nat} (hC : CO M o a b c d) (hs : s ≤ 6) (e8 : rd M o 8 = nI s) (hd : ∀ j, j < s → ∃ x, x < d ∧ rd M (o + 6) j = nI x) (h : Post (orU (okU (stC M o) (rd M (o + 6)) (rd M (o + 7)) p s) 10) M) : wp_X0_purseBits Post M o (nI p) := by
  intro P6 h6
  have hB := hC.2.2.2.2.1
  have hB2 := hB
  unfold BD at hB
  have e0 : (1023 : Int32) = orU (okU (stC M o) (rd M (o + 6)) (rd M (o + 7)) p 0) 10 := by
    rw [← or_all]; exact or_cg (fun _ _ => rfl) (by omega)
  rw [e0]
  refine for_acc (P := P6) (n := s) (fun i => orU (okU (stC M o) (rd M (o + 6)) (rd M (o + 7)) p i) 10) (h6 _ _ _ ⟨fun _ => h, fun z => absurd (by rw [e8]; exact Int32.le_refl _) z⟩) (fun i hi ih => h6 _ _ _ ⟨fun z => absurd z (by rw [e8]; exact le_n (by omega) hi), fun _ => ⟨fun z => absurd z (le_n (n := 6) (by omega) (by omega)), fun _ => ?_⟩⟩)
  have n1 := cl4 (p := i) (by omega)
  obtain ⟨x, hx, ex⟩ := hd i hi
  have n2 := cl4 (p := x) (by omega)
  have v6 : vp_in (nI i) 6 := vp_in_nI (by omega) (by omega)
  have v4 : vp_in (nI x) 4 := vp_in_nI (by omega) (by omega)
  obtain ⟨e, he1, he2, he⟩ := cos_lt hB2 hC.2.2.2.2.2 hx
  have e5 : stC M o 5 x = rd M 8 x := rfl
  rw [n1, ex]
  refine ⟨v6, ?_⟩
  rintro x4 rfl
  rw [n2]
  refine ⟨v4, fun z x3 hx3 => ?_, fun z => ⟨v6, fun w => ?_, fun w => ?_⟩⟩
  · rw [hx3, nI_1]
    have : orU (okU (stC M o) (rd M (o + 6)) (rd M (o + 7)) p i) 10 = orU (okU (stC M o) (rd M (o + 6)) (rd M (o + 7)) p (i + 1)) 10 := by
      refine or_cg (fun j _ => ?_) (by omega)
      rw [okU, ex, n2, e5, decide_eq_false z]; simp
    rw [this]; exact ih
  · rw [eqc_poor hC hx, he]
    intro x2 hx2 x3 hx3
    rw [hx2, hx3, nI_1, or_msk (by omega)]
    have : orU (fun j => okU (stC M o) (rd M (o + 6)) (rd M (o + 7)) p i j && decide (j < e)) 10 = orU (okU (stC M o) (rd M (o + 6)) (rd M (o + 7)) p (i + 1)) 10 := by
      refine or_cg (fun j hj => ?_) (by omega)
      have q : nI e ≤ nI j ↔ e ≤ j := nI_leI (by omega) (by omega)
      have q2 : decide (nI e ≤ nI j ↔ ¬ rd M (o + 7) i = 0) = decide (j < e) := decide_eq_decide.mpr (by
        rw [q]
        exact ⟨fun y => Nat.lt_of_not_le (fun y2 => absurd w (y.mp y2)), fun y => ⟨fun y2 => absurd y2 (by omega), fun y2 => absurd w y2⟩⟩)
      rw [okU, ex, n2, e5, decide_eq_true z, he, q2]; simp
    rw [this]; exact ih
  · rw [eqc_poor hC hx, he]
    intro x2 hx2 x3 hx3
    rw [hx2, hx3, nI_1, or_nmsk (by omega)]
    have : orU (fun j => okU (stC M o) (rd M (o + 6)) (rd M (o + 7)) p i j && !decide (j < e)) 10 = orU (okU (stC M o) (rd M (o + 6)) (rd M (o + 7)) p (i + 1)) 10 := by
      refine or_cg (fun j hj => ?_) (by omega)
      have q : nI e ≤ nI j ↔ e ≤ j := nI_leI (by omega) (by omega)
      have q2 : decide (nI e ≤ nI j ↔ ¬ rd M (o + 7) i = 0) = !decide (j < e) := by
        rw [← decide_not]
        exact decide_eq_decide.mpr (by
          rw [q]
          exact ⟨fun y => by have := y.mpr w; omega, fun y => ⟨fun _ => w, fun _ => by omega⟩⟩)
      rw [okU, ex, n2, e5, decide_eq_true z, he, q2]; simp
    rw [this]; exact ih
theorem for_ix {S : Type} {P : S → Nat → Prop} {n : Nat} (I : Nat → S → Prop) (hexit : ∀ s, I n s → P s n) (hstep : ∀ i s, i < n → I i s → (∀ s', I (i + 1) s' → P s' (i + 1)) → P s i) : ∀ i, i ≤ n → ∀ s, I i s → P s i := by
  have key : ∀ k i, i + k = n → ∀ s, I i s → P s i := by
    intro k
    induction k with
    | zero =>
      intro i hi s hs
      have : i = n := by omega
      subst this
      exact hexit s hs
    | succ k ih =>
      intro i hi s hs
      exact hstep i s (by omega) hs (fun s' hs' => ih (i + 1) (by omega) s' hs')
  exact fun i hi s hs => key (n - i) i (by omega) s hs
theorem d2s : ∀ s, s < 7 → (2 : Int32) * nI s = nI (2 * s) ∧ nI (2 * s) + 2 = nI (2 * (s + 1)) ∧ nI (2 * s) + 1 = nI (2 * s + 1) := by decide
theorem sp_pursesOf {Post : Int32 → Mem → Prop} {M : Mem} {a b c d s p : Nat} (hC : MO M a b c d) (hs : s ≤ 6) (e8 : rd M 29 31 = nI s) (hd : ∀ j, j < s → ∃ x, x < d ∧ rd M 52 (2 * j) = nI x) (hz : ∀ j, j < s → zb (rd M 52 (2 * j + 1))) (h : Post (orU (okU (stM M) (fun i => rd M 52 (2 * i)) (fun i => rd M 52 (2 * i + 1)) p s) 10) M) : wp_X12_pursesOf Post M (nI p) := by
  intro P4 P16 h4 h16
  have hB := hC.2.2.2.2.1
  have hB2 := hB
  unfold BD at hB
  refine for_acc (P := P4) (n := 10) (orU (okU (stM M) (fun i => rd M 52 (2 * i)) (fun i => rd M 52 (2 * i + 1)) p s)) (h4 _ _ _ ⟨fun _ => h, fun z => absurd (Int32.le_refl _) z⟩) (fun j hj ih => h4 _ _ _ ⟨fun z => absurd z (le_n (n := 10) (by omega) hj), fun _ => ?_⟩)
  refine for_ix (S := Int32) (P := fun v i => P16 M (orU (okU (stM M) (fun i => rd M 52 (2 * i)) (fun i => rd M 52 (2 * i + 1)) p s) j) (nI j) v (nI (2 * i))) (n := s) (fun i v => v = if okU (stM M) (fun i => rd M 52 (2 * i)) (fun i => rd M 52 (2 * i + 1)) p i j = true then 1 else 0) (fun v hv => h16 _ _ _ _ _ ?_) (fun i v hi hv ih2 => h16 _ _ _ _ _ ?_) 0 (Nat.zero_le _) 1 rfl
  · refine ⟨fun _ => ?_, fun z => absurd (by rw [e8, (d2s s (by omega)).1]; exact Int32.le_refl _) z⟩
    rw [orU] at ih
    by_cases g : okU (stM M) (fun i => rd M 52 (2 * i)) (fun i => rd M 52 (2 * i + 1)) p s j = true
    · rw [if_pos g] at hv ih
      subst hv
      refine ⟨fun z => absurd z (by decide), fun _ x2 hx2 x3 hx3 => ?_⟩
      rw [hx2, hx3, nI_1]; exact ih
    · rw [if_neg g] at hv ih
      subst hv
      refine ⟨fun _ x2 hx2 x3 hx3 => ?_, fun z => absurd rfl z⟩
      have z0 : ∀ x : Int32, x ||| 0 = x := fun x => by simp
      rw [hx2, hx3, nI_1, z0]; exact ih
  · refine ⟨fun z => absurd z (by rw [e8, (d2s s (by omega)).1]; exact le_n (by omega) (by omega)), fun _ => ?_⟩
    have n1 := cl4 (p := 2 * i) (by omega)
    have n3 := cl4 (p := 2 * i + 1) (by omega)
    obtain ⟨x, hx, ex⟩ := hd i hi
    have hz := hz i hi
    have n2 := cl4 (p := x) (by omega)
    have v12 : vp_in (nI (2 * i)) 12 := vp_in_nI (by omega) (by omega)
    have v13 : vp_in (nI (2 * i + 1)) 12 := vp_in_nI (by omega) (by omega)
    have v4 : vp_in (nI x) 4 := vp_in_nI (by omega) (by omega)
    obtain ⟨e, he1, he2, he⟩ := cos_lt hB2 hC.2.2.2.2.2 hx
    have e5 : stM M 5 x = rd M 38 x := rfl
    have q2 := (d2s i (by omega)).2.1
    have q1 := (d2s i (by omega)).2.2
    have ok1 : okU (stM M) (fun i => rd M 52 (2 * i)) (fun i => rd M 52 (2 * i + 1)) p (i + 1) j = (okU (stM M) (fun i => rd M 52 (2 * i)) (fun i => rd M 52 (2 * i + 1)) p i j && (!decide (rd M 38 x = nI p) || decide (nI e ≤ nI j ↔ ¬ rd M 52 (2 * i + 1) = 0))) := by
      rw [okU]
      show (_ && (!decide (stM M 5 (rd M 52 (2 * i)).toNatClampNeg = nI p) || decide (cosH (stM M) (rd M 52 (2 * i)).toNatClampNeg ≤ nI j ↔ ¬ rd M 52 (2 * i + 1) = 0))) = _
      rw [ex, n2, he, e5]
    rw [n1, ex, n2]
    refine ⟨v12, v4, fun z x5 hx5 => ?_, fun z => ?_⟩
    · rw [hx5, q2]
      refine ih2 v ?_
      rw [ok1, hv, decide_eq_false z]; simp
    · by_cases g : okU (stM M) (fun i => rd M 52 (2 * i)) (fun i => rd M 52 (2 * i + 1)) p i j = true
      · rw [if_pos g] at hv
        subst hv
        refine ⟨fun z => absurd z (by decide), fun _ => ⟨v12, ?_⟩⟩
        rw [eqm_cost hC hx, he]
        unfold wp_X12_pursesOf_b68
        rw [q1, n3]
        have ql : nI j < nI e ↔ j < e := nI_ltI (by omega) (by omega)
        have qe : nI e ≤ nI j ↔ e ≤ j := nI_leI (by omega) (by omega)
        rw [ql]
        rw [g, decide_eq_true z] at ok1
        refine ⟨fun w => ⟨v13, fun y x5 hx5 => ?_, fun y x5 hx5 => ?_⟩, fun w => ⟨v13, fun y x5 hx5 => ?_, fun y x5 hx5 => ?_⟩⟩
        · rw [hx5, q2]
          refine ih2 0 ?_
          rw [ok1, if_neg]
          simp only [Bool.true_and, Bool.not_true, Bool.false_or, decide_eq_true_eq]
          rw [qe]
          exact fun t => absurd (t.mpr (fun t2 => y t2.symm)) (by omega)
        · rw [hx5, q2]
          refine ih2 1 ?_
          rw [ok1, if_pos]
          simp only [Bool.true_and, Bool.not_true, Bool.false_or, decide_eq_true_eq]
          rw [qe]
          exact ⟨fun t => absurd t (by omega), fun t => absurd y.symm t⟩
        · rw [hx5, q2]
          refine ih2 0 ?_
          rw [ok1, if_neg]
          simp only [Bool.true_and, Bool.not_true, Bool.false_or, decide_eq_true_eq]
          rw [qe]
          intro t
          rcases hz with hz | hz
          · exact t.mp (by omega) hz
          · exact y hz.symm
        · rw [hx5, q2]
          refine ih2 1 ?_
          rw [ok1, if_pos]
          simp only [Bool.true_and, Bool.not_true, Bool.false_or, decide_eq_true_eq]
          rw [qe]
          exact ⟨fun _ t => absurd (y.trans t) (by decide), fun _ => by omega⟩
      · rw [if_neg g] at hv
        subst hv
        have g' : okU (stM M) (fun i => rd M 52 (2 * i)) (fun i => rd M 52 (2 * i + 1)) p i j = false := by
          cases hh : okU (stM M) (fun i => rd M 52 (2 * i)) (fun i => rd M 52 (2 * i + 1)) p i j
          · rfl
          · exact absurd hh g
        refine ⟨fun _ x5 hx5 => ?_, fun z => absurd rfl z⟩
        rw [hx5, q2]
        refine ih2 0 ?_
        rw [ok1, g']; simp
