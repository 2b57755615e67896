/-! ===== the night in which one pays most ===== -/
def kpN (v : Int32) (row : Nat) (S : Int32 × Nat) : Int32 × Nat := if v ≤ S.1 then S else (v, row)
def vl2 (H : Nat → Nat → Int32) (p b d row : Nat) : Nat → TV → Int32 → Int32
  | 0, _, acc => acc
  | n + 1, T, acc => if row / 6 ^ n % 6 < b ∧ goB H p (row / 6 ^ n % 6) (T.2.1 p) = true then vl2 H p b d row n (pyU H true p (goT H T p (row / 6 ^ n % 6)) d).1 (acc + (pyU H true p (goT H T p (row / 6 ^ n % 6)) d).2) else -1
def fdK (g : Nat → Int32 × Nat → Int32 × Nat) : Nat → Int32 × Nat → Int32 × Nat
  | 0, S => S
  | k + 1, S => g k (fdK g k S)
def goN (H : Nat → Nat → Int32) (p b d : Nat) : Nat → TV → Int32 → Nat → Int32 × Nat → Int32 × Nat
  | 0, _, acc, pre, S => kpN acc pre S
  | n + 1, T, acc, pre, S => fdK (fun k U => if goB H p k (T.2.1 p) = true then goN H p b d n (pyU H true p (goT H T p k) d).1 (acc + (pyU H true p (goT H T p k) d).2) (pre * 6 + k) U else U) b S
def rwN (f : Nat → Int32) (lo : Nat) : Nat → Int32 × Nat → Int32 × Nat
  | 0, S => S
  | n + 1, S => kpN (f (lo + n)) (lo + n) (rwN f lo n S)
theorem kp_ge {v : Int32} {r : Nat} {S : Int32 × Nat} (h : -1 ≤ S.1) : -1 ≤ (kpN v r S).1 := by
  unfold kpN
  by_cases e : v ≤ S.1
  · rw [if_pos e]; exact h
  · rw [if_neg e]
    have h1 := Int32.le_iff_toInt_le.mp h
    have h2 : ¬ v.toInt ≤ S.1.toInt := fun z => e (Int32.le_iff_toInt_le.mpr z)
    show -1 ≤ v
    exact Int32.le_iff_toInt_le.mpr (by omega)
theorem rw_ge {f : Nat → Int32} {lo : Nat} {S : Int32 × Nat} (h : -1 ≤ S.1) : ∀ n, -1 ≤ (rwN f lo n S).1 := by
  intro n
  induction n with
  | zero => exact h
  | succ n ih => rw [rwN]; exact kp_ge ih
theorem rw_add {f : Nat → Int32} {lo m : Nat} {S : Int32 × Nat} : ∀ n, rwN f lo (m + n) S = rwN f (lo + m) n (rwN f lo m S) := by
  intro n
  induction n with
  | zero => rfl
  | succ n ih =>
    show kpN (f (lo + (m + n))) (lo + (m + n)) (rwN f lo (m + n) S) = kpN (f (lo + m + n)) (lo + m + n) (rwN f (lo + m) n (rwN f lo m S))
    rw [ih, Nat.add_assoc]
theorem rw_cg {f g : Nat → Int32} {lo : Nat} {S : Int32 × Nat} : ∀ n, (∀ j, j < n → f (lo + j) = g (lo + j)) → rwN f lo n S = rwN g lo n S := by
  intro n
  induction n with
  | zero => intro _; rfl
  | succ n ih => intro h; rw [rwN, rwN, ih (fun j hj => h j (by omega)), h n (by omega)]
theorem rw_m1 {f : Nat → Int32} {lo : Nat} {S : Int32 × Nat} (hS : -1 ≤ S.1) : ∀ n, (∀ j, j < n → f (lo + j) = -1) → rwN f lo n S = S := by
  intro n
  induction n with
  | zero => intro _; rfl
  | succ n ih =>
    intro h
    rw [rwN, ih (fun j hj => h j (by omega)), h n (by omega)]
    unfold kpN
    rw [if_pos hS]
theorem dig6 {x j n k : Nat} (hj : j < 6 ^ n) (hk : k < 6) : ((x * 6 + k) * 6 ^ n + j) / 6 ^ n % 6 = k := by
  have h0 : 0 < 6 ^ n := Nat.lt_of_le_of_lt (Nat.zero_le _) hj
  rw [Nat.add_comm, Nat.add_mul_div_right _ _ h0, Nat.div_eq_of_lt hj]
  omega
theorem rw_go {H : Nat → Nat → Int32} {p b d : Nat} (hb : b ≤ 6) : ∀ n T acc pre S, -1 ≤ S.1 → rwN (fun row => vl2 H p b d row n T acc) (pre * 6 ^ n) (6 ^ n) S = goN H p b d n T acc pre S := by
  intro n
  induction n with
  | zero =>
    intro T acc pre S hS
    show kpN acc (pre * 6 ^ 0 + 0) S = kpN acc pre S
    rw [Nat.pow_zero, Nat.mul_one, Nat.add_zero]
  | succ n ih =>
    intro T acc pre S hS
    have part : ∀ k, k ≤ 6 → rwN (fun row => vl2 H p b d row (n + 1) T acc) (pre * 6 ^ (n + 1)) (k * 6 ^ n) S = fdK (fun k U => if goB H p k (T.2.1 p) = true then goN H p b d n (pyU H true p (goT H T p k) d).1 (acc + (pyU H true p (goT H T p k) d).2) (pre * 6 + k) U else U) (min k b) S := by
      intro k
      induction k with
      | zero => intro _; rw [Nat.zero_mul, Nat.zero_min]; rfl
      | succ k ihk =>
        intro hk
        have ihk := ihk (by omega)
        have ge := rw_ge (f := fun row => vl2 H p b d row (n + 1) T acc) (lo := pre * 6 ^ (n + 1)) hS (k * 6 ^ n)
        have lo : pre * 6 ^ (n + 1) + k * 6 ^ n = (pre * 6 + k) * 6 ^ n := by
          rw [Nat.pow_succ, Nat.add_mul]
          congr 1
          ac_rfl
        rw [Nat.succ_mul, rw_add, lo]
        rw [ihk] at ge ⊢
        by_cases hkb : k < b
        · rw [Nat.min_eq_left (show k + 1 ≤ b by omega), fdK]
          rw [Nat.min_eq_left (show k ≤ b by omega)] at ge ⊢
          generalize fdK _ k S = U at ge ⊢
          by_cases g : goB H p k (T.2.1 p) = true
          · rw [if_pos g, ← ih _ _ _ _ ge]
            refine rw_cg _ (fun j hj => ?_)
            rw [vl2, dig6 hj (by omega), if_pos ⟨hkb, g⟩]
          · rw [if_neg g]
            refine rw_m1 ge _ (fun j hj => ?_)
            rw [vl2, dig6 hj (by omega), if_neg (fun z => g z.2)]
        · rw [Nat.min_eq_right (show b ≤ k + 1 by omega)]
          rw [Nat.min_eq_right (show b ≤ k by omega)] at ge ⊢
          refine rw_m1 ge _ (fun j hj => ?_)
          rw [vl2, dig6 hj (by omega), if_neg (fun z => hkb z.1)]
    have fin := part 6 (Nat.le_refl _)
    rw [Nat.min_eq_right hb, show 6 * 6 ^ n = 6 ^ (n + 1) by rw [Nat.pow_succ, Nat.mul_comm]] at fin
    rw [fin, goN]
/-- what the class has kept of the best night -/
def StC (many : Nat) (M : Mem) (S : Int32 × Nat) : Prop := rd M 19 4 = S.1 ∧ (¬ S.1 = -1 → ∀ j, j < many → rd M 22 j = nI (S.2 / 6 ^ (many - 1 - j) % 6))
theorem StC.of {many : Nat} {M M' : Mem} {S : Int32 × Nat} (h : StC many M S) (h1 : rd M' 19 4 = rd M 19 4) (h2 : ∀ j, rd M' 22 j = rd M 22 j) : StC many M' S := ⟨h1.trans h.1, fun z j hj => (h2 j).trans (h.2 z j hj)⟩
theorem sp_keep {Post : Mem → Prop} {M : Mem} {many pre : Nat} {v : Int32} {S : Int32 × Nat} (hm : many ≤ 4) (st : StC many M S) (path : ∀ j, j < many → rd M 21 j = nI (pre / 6 ^ (many - 1 - j) % 6)) (h : ∀ M', (∀ q, q ≠ 19 → q ≠ 22 → ∀ j, rd M' q j = rd M q j) → M'.2 = M.2 → StC many M' (kpN v pre S) → Post M') : wp_X5_keepIfMore Post M v := by
  intro P15 h15
  rw [st.1]
  unfold kpN at h
  refine ⟨fun z => ?_, fun z => ?_⟩
  · rw [if_pos z] at h
    exact h M (fun _ _ _ _ => rfl) rfl st
  · rw [if_neg z] at h
    rintro M1 rfl
    refine for_up (S := Mem) (P := P15) (n := 4) (fun i s => (∀ q, q ≠ 19 → q ≠ 22 → ∀ j, rd s q j = rd M q j) ∧ s.2 = M.2 ∧ rd s 19 4 = v ∧ ∀ j, j < i → rd s 22 j = rd M 21 j) (fun s hs => ?_) (fun i s hi hs ih => ?_) 0 (Nat.zero_le _) _ ⟨fun q h1 h2 j => by rw [wr_n h1], rfl, wr_s _ _ _ _, fun j hj => absurd hj (Nat.not_lt_zero _)⟩
    · obtain ⟨s1, s2, s3, s4⟩ := hs
      refine h15 _ _ ⟨fun _ => h s s1 s2 ⟨s3, fun _ j hj => ?_⟩, fun y => absurd (Int32.le_refl _) y⟩
      rw [s4 j (by omega)]; exact path j hj
    · obtain ⟨s1, s2, s3, s4⟩ := hs
      have n1 := cl4 (p := i) (by omega)
      have v4 : vp_in (nI i) 4 := vp_in_nI hi (by omega)
      refine h15 _ _ ⟨fun y => absurd y (le_n (n := 4) (by omega) hi), fun _ => ⟨v4, v4, ?_⟩⟩
      rintro M2 rfl x2 rfl
      rw [nI_1, n1]
      refine ih _ ⟨fun q h1 h2 j => by rw [wr_n h2]; exact s1 q h1 h2 j, s2, by rw [wr_n (by omega)]; exact s3, fun j hj => ?_⟩
      rw [wr_q]
      by_cases e : j = i
      · rw [if_pos e, e, s1 21 (by omega) (by omega)]
      · rw [if_neg e]; exact s4 j (by omega)
def FG (i : Nat) (M M' : Mem) : Prop := (∀ q, q ≠ 19 → q ≠ 21 → q ≠ 22 → q < 83 + 8 * i → ∀ j, rd M' q j = rd M q j) ∧ (∀ j, j < i → rd M' 21 j = rd M 21 j) ∧ M'.2 = M.2
theorem FG.tr {i : Nat} {M N K : Mem} (f : FG i M N) (g : FG i N K) : FG i M K := ⟨fun q h1 h2 h3 h4 j => (g.1 q h1 h2 h3 h4 j).trans (f.1 q h1 h2 h3 h4 j), fun j hj => (g.2.1 j hj).trans (f.2.1 j hj), g.2.2.trans f.2.2⟩
theorem FG.up {i : Nat} {M N : Mem} (f : FG (i + 1) M N) : FG i M N := ⟨fun q h1 h2 h3 h4 j => f.1 q h1 h2 h3 (by omega) j, fun j hj => f.2.1 j (by omega), f.2.2⟩
theorem stC_of8 {M M' : Mem} {o : Nat} (f : ∀ q, (3 ≤ q ∧ q ≤ 14 ∨ o ≤ q ∧ q < o + 8) → ∀ j, rd M' q j = rd M q j) : stC M' o = stC M o := by
  funext i
  match i with
  | 0 => exact funext (f 4 (by omega))
  | 1 => exact funext (f 5 (by omega))
  | 2 => exact funext (f 6 (by omega))
  | 3 => exact cut_ext (fun p hp => f (11 + p) (by omega) 0)
  | 4 => exact cut_ext (fun p hp => f (o + 3) (by omega) p)
  | 5 => exact funext (f 8 (by omega))
  | 6 => exact funext (f 9 (by omega))
  | 7 => exact funext (f 10 (by omega))
  | k + 8 => exact cut_ext (fun p hp => f (o + 4) (by omega) p)
theorem tvC_of8 {M M' : Mem} {o : Nat} (f : ∀ q, o ≤ q ∧ q < o + 8 → ∀ j, rd M' q j = rd M q j) : tvC M' o = tvC M o := tv_ext (cut_ext fun j _ => f _ (by omega) j) (cut_ext fun j _ => f _ (by omega) j) (cut_ext fun j _ => f _ (by omega) j)
theorem co_of8 {M M' : Mem} {o a b c d : Nat} (f : ∀ q, (3 ≤ q ∧ q ≤ 14 ∨ o ≤ q ∧ q < o + 8) → ∀ j, rd M' q j = rd M q j) (h : CO M o a b c d) : CO M' o a b c d := by
  unfold CO at h ⊢
  have e := f 3 (by omega)
  rw [e, e, e, e, stC_of8 f]
  exact h
theorem zp_rd {M : Mem} {o : Nat} (h : ZP (tvC M o)) : ∀ j, j < 4 → zb (rd M (o + 5) j) := fun j hj => by
  have := h j hj
  have e : (tvC M o).2.2 j = rd M (o + 5) j := cut_lt hj
  rw [e] at this
  exact this
theorem sp_goOn {H : Nat → Nat → Int32} {a b c d p many : Nat} (hp : p < 4) (hm : many ≤ 4) : ∀ n i, i + n = many → ∀ fu, n < fu → ∀ (Post : Mem → Prop) (M : Mem) (T : TV) (acc : Int32) (pre : Nat) (S : Int32 × Nat), CO M (83 + 8 * i) a b c d → stC M (83 + 8 * i) = H → tvC M (83 + 8 * i) = T → ZP T → (∀ j, j < 6 → zb (rd M (83 + 8 * i + 7) j)) → (∀ j, j < i → rd M 21 j = nI (pre / 6 ^ (i - 1 - j) % 6)) → StC many M S → (∀ M', FG i M M' → StC many M' (goN H p b d n (pyU H true p T d).1 (acc + (pyU H true p T d).2) pre S) → Post M') → wp_X5_goOn fu Post M (nI p) (nI many) (nI i) acc := by
  intro n
  induction n with
  | zero =>
    intro i hi fu hfu Post M T acc pre S hC hH hT hz hz7 path st h
    cases fu with
    | zero => omega
    | succ fu =>
      intro P56 h56
      have n1 := cl4 (p := i) (by omega)
      refine ⟨fun _ => ⟨vp_in_nI (by omega) (by omega), ?_⟩, fun z => absurd (nI_le (a := i) (b := 4) (by omega) (by omega)) z⟩
      rw [n1]
      refine sp_payAllC true rfl hC (by omega) hp (fun M2 f2 e2 => ?_)
      rw [hH, hT]
      intro x6 hx6
      rw [hx6]
      have im : i = many := by omega
      refine ⟨fun _ => ?_, fun z => absurd (by rw [im]; exact Int32.le_refl _) z⟩
      refine sp_keep (pre := pre) (S := S) hm (st.of (f2.1 19 (by omega) (by omega) (by omega) (by omega) 4) (f2.1 22 (by omega) (by omega) (by omega) (by omega))) (fun j hj => ?_) (fun M' f3 x3 st3 => h M' ⟨fun q q1 q2 q3 q4 j => ?_, fun j hj => ?_, x3.trans f2.2⟩ st3)
      · rw [f2.1 21 (by omega) (by omega) (by omega) (by omega), ← im]; exact path j (by omega)
      · rw [f3 q q1 q3, f2.1 q (by omega) (by omega) (by omega) (by omega)]
      · rw [f3 21 (by omega) (by omega), f2.1 21 (by omega) (by omega) (by omega) (by omega)]
  | succ n ih =>
    intro i hi fu hfu Post M T acc pre S hC hH hT hz hz7 path st h
    cases fu with
    | zero => omega
    | succ fu =>
      intro P56 h56
      have hB := hC.2.2.2.2.1
      unfold BD at hB
      have n1 := cl4 (p := i) (by omega)
      have n2 := cl4 (p := i + 1) (by omega)
      refine ⟨fun _ => ⟨vp_in_nI (by omega) (by omega), ?_⟩, fun z => absurd (nI_le (a := i) (b := 4) (by omega) (by omega)) z⟩
      rw [n1]
      refine sp_payAllC true rfl hC (by omega) hp (fun M2 f2 e2 => ?_)
      rw [hH, hT] at e2 ⊢
      intro x6 hx6
      rw [← hx6] at h
      refine ⟨fun z => absurd z (le_n (by omega) (by omega)), fun _ => ⟨fun _ => ⟨by rw [nI_1]; exact vp_in_nI (by omega) (by omega), ?_⟩, fun z => absurd (nI_lt (a := i) (b := 4) (by omega) (by omega)) z⟩⟩
      have hzp : ZP (pyU H true p T d).1 := zp_py hz d
      have hC2 := f2.co (by omega) hC
      have hH2 := (f2.st (by omega)).trans hH
      generalize (pyU H true p T d).1 = T2 at e2 h hzp
      rw [goN] at h
      refine for_up (S := Mem) (P := fun s k => P56 s x6 k) (n := b) (fun k s => FG i M s ∧ (∀ q, 83 + 8 * i ≤ q → q < 83 + 8 * i + 8 → ∀ j, rd s q j = rd M2 q j) ∧ StC many s (fdK (fun k U => if goB H p k (T2.2.1 p) = true then goN H p b d n (pyU H true p (goT H T2 p k) d).1 (x6 + (pyU H true p (goT H T2 p k) d).2) (pre * 6 + k) U else U) k S)) (fun s hs => ?_) (fun k s hk hs ihk => ?_) 0 (Nat.zero_le _) M2 ⟨⟨fun q q1 q2 q3 q4 j => f2.1 q (by omega) (by omega) (by omega) (by omega) j, fun j hj => f2.1 21 (by omega) (by omega) (by omega) (by omega) j, f2.2⟩, fun q _ _ j => rfl, st.of (f2.1 19 (by omega) (by omega) (by omega) (by omega) 4) (f2.1 22 (by omega) (by omega) (by omega) (by omega))⟩
      · obtain ⟨fs, ls, ss⟩ := hs
        refine h56 _ _ _ ⟨fun _ => h s fs ss, fun z => absurd (by rw [fs.1 3 (by omega) (by omega) (by omega) (by omega), hC.2.1]; exact Int32.le_refl _) z⟩
      · obtain ⟨fs, ls, ss⟩ := hs
        have cells : ∀ q, (3 ≤ q ∧ q ≤ 14 ∨ 83 + 8 * i ≤ q ∧ q < 83 + 8 * i + 8) → ∀ j, rd s q j = rd M2 q j := fun q hq j => by
          rcases hq with hq | hq
          · rw [fs.1 q (by omega) (by omega) (by omega) (by omega), f2.1 q (by omega) (by omega) (by omega) (by omega)]
          · exact ls q hq.1 hq.2 j
        have hCs := co_of8 cells hC2
        have hHs := (stC_of8 cells).trans hH2
        have hTs := (tvC_of8 (o := 83 + 8 * i) (fun q hq j => ls q hq.1 hq.2 j)).trans e2
        have ihk := fun s' (z : FG i M s' ∧ (∀ q, 83 + 8 * i ≤ q → q < 83 + 8 * i + 8 → ∀ j, rd s' q j = rd M2 q j) ∧ StC many s' (fdK (fun k U => if goB H p k (T2.2.1 p) = true then goN H p b d n (pyU H true p (goT H T2 p k) d).1 (x6 + (pyU H true p (goT H T2 p k) d).2) (pre * 6 + k) U else U) (k + 1) S)) => ihk s' z
        rw [fdK] at ihk
        refine h56 _ _ _ ⟨fun z => absurd z (by rw [fs.1 3 (by omega) (by omega) (by omega) (by omega), hC.2.1]; exact le_n (by omega) hk), fun _ => ?_⟩
        rw [n1, nI_1 i, n2, eqc_go hCs hp hk, hHs, hTs]
        by_cases g : goB H p k (T2.2.1 p) = true
        · rw [if_pos g] at ihk ⊢
          refine ⟨fun z => absurd z (by decide), fun _ => ⟨vp_in_nI (by omega) (by omega), ?_⟩⟩
          rintro M11 rfl
          have w21 : ∀ q, q ≠ 21 → ∀ j, rd (wr s 21 i (nI k)) q j = rd s q j := fun q hq j => wr_n hq j
          have hC11 := co_of8 (o := 83 + 8 * i) (fun q hq j => w21 q (by omega) j) hCs
          have hH11 := (stC_of8 (o := 83 + 8 * i) (fun q hq j => w21 q (by omega) j)).trans hHs
          have hT11 := (tvC_of8 (o := 83 + 8 * i) (fun q hq j => w21 q (by omega) j)).trans hTs
          have z7 : ∀ j, j < 6 → zb (rd (wr s 21 i (nI k)) (83 + 8 * i + 7) j) := fun j hj => by
            rw [w21 _ (by omega), ls _ (by omega) (by omega), f2.1 _ (by omega) (by omega) (by omega) (by omega)]
            exact hz7 j hj
          refine sp_takeOver (by omega) (zp_rd (by rw [hT11]; exact hzp)) z7 (fun M13 tk => ?_)
          refine sp_goT (tk.co (by omega) hC11) hp hk (fun M15 f15 e15 => ?_)
          rw [tk.st (by omega), hH11, tk.tv, hT11] at e15
          have F15 : FG i s M15 := ⟨fun q q1 q2 q3 q4 j => by rw [f15.1 q (by omega) (by omega) (by omega) (by omega), tk.1 q (by omega), w21 q q2], fun j hj => by rw [f15.1 21 (by omega) (by omega) (by omega) (by omega), tk.1 21 (by omega), wr_k _ (by omega)], f15.2.trans tk.2.2.2.2.2.2.2.2.2.2⟩
          refine ih (i + 1) (by omega) fu (by omega) _ M15 (goT H T2 p k) x6 (pre * 6 + k) _ (f15.co (by omega) (tk.co (by omega) hC11)) ?_ e15 hzp ?_ ?_ (ss.of ?_ ?_) ?_
          · rw [f15.st (by omega), tk.st (by omega), hH11]
          · intro j hj
            rw [f15.1 _ (by omega) (by omega) (by omega) (by omega), tk.2.2.2.2.2.2.2.1 j, if_pos hj]
            exact z7 j hj
          · intro j hj
            rw [f15.1 21 (by omega) (by omega) (by omega) (by omega), tk.1 21 (by omega), wr_q]
            by_cases e : j = i
            · rw [if_pos e, e, show i + 1 - 1 - i = 0 by omega, Nat.pow_zero, Nat.div_one]
              congr 1
              omega
            · rw [if_neg e, fs.2.1 j (by omega), path j (by omega), show i + 1 - 1 - j = (i - 1 - j) + 1 by omega, Nat.pow_succ, Nat.mul_comm (6 ^ (i - 1 - j)) 6, ← Nat.div_div_eq_div_mul]
              congr 3
              omega
          · rw [f15.1 19 (by omega) (by omega) (by omega) (by omega), tk.1 19 (by omega), w21 19 (by omega)]
          · intro j
            rw [f15.1 22 (by omega) (by omega) (by omega) (by omega), tk.1 22 (by omega), w21 22 (by omega)]
          · intro M17 f17 st17 x8 hx8
            rw [hx8, nI_1]
            refine ihk M17 ⟨(fs.tr F15).tr f17.up, fun q q1 q2 j => ?_, st17⟩
            rw [f17.1 q (by omega) (by omega) (by omega) (by omega), f15.1 q (by omega) (by omega) (by omega) (by omega), tk.1 q (by omega), w21 q (by omega)]
            exact ls q q1 q2 j
        · rw [if_neg g] at ihk ⊢
          refine ⟨fun _ x8 hx8 => ?_, fun z => absurd rfl z⟩
          rw [hx8, nI_1]
          exact ihk s ⟨fs, ls, ss⟩
def ngt (H : Nat → Nat → Int32) (p b d many : Nat) (T : TV) : Int32 × Nat := goN H p b d many (pyU H true p T d).1 (0 + (pyU H true p T d).2) 0 (-1, 0)
theorem sp_search {Post : Mem → Prop} {M : Mem} {a b c d p many : Nat} (hC : CO M 59 a b c d) (hp : p < 4) (hm : many ≤ 4) (hz : ZP (tvC M 59)) (hz7 : ∀ j, j < 6 → zb (rd M 66 j)) (h : ∀ M', Fr M M' → M'.2 = M.2 → StC many M' (ngt (stC M 59) p b d many (tvC M 59)) → Post M') : wp_X5_search Post M 59 (nI p) (nI many) := by
  rintro M1 rfl
  have w19 : ∀ q, q ≠ 19 → ∀ j, rd (wr M 19 4 (-1)) q j = rd M q j := fun q hq j => wr_n hq j
  have hC1 := co_of8 (o := 59) (fun q hq j => w19 q (by omega) j) hC
  have hH1 := stC_of8 (o := 59) (fun q hq j => w19 q (by omega) j)
  have hT1 := tvC_of8 (o := 59) (fun q hq j => w19 q (by omega) j)
  refine ⟨vp_in_nI (n := 0) (by omega) (by omega), ?_⟩
  rw [c0]
  refine sp_takeOver (by omega) (zp_rd (by rw [hT1]; exact hz)) (fun j hj => by rw [w19 _ (by omega)]; exact hz7 j hj) (fun M3 tk => ?_)
  have hT3 := tk.tv.trans hT1
  refine sp_goOn (H := stC M 59) (a := a) (c := c) (d := d) hp hm many 0 (by omega) 6 (by omega) _ M3 (tvC M 59) 0 0 (-1, 0) (tk.co (by omega) hC1) ((tk.st (by omega)).trans hH1) hT3 hz (fun j hj => ?_) (fun j hj => absurd hj (Nat.not_lt_zero _)) ⟨?_, fun z => absurd rfl z⟩ (fun M' f st => ?_)
  · rw [tk.2.2.2.2.2.2.2.1 j, if_pos hj, w19 _ (by omega)]; exact hz7 j hj
  · rw [tk.1 19 (by omega), wr_s]
  · refine h M' ⟨fun q hq j => ?_, ?_, fun k hk => ?_⟩ (f.2.2.trans tk.2.2.2.2.2.2.2.2.2.2) st
    · unfold core at hq
      rw [f.1 q (by omega) (by omega) (by omega) (by omega), tk.1 q (by omega), w19 q (by omega)]
    · rw [f.1 1 (by omega) (by omega) (by omega) (by omega), tk.1 1 (by omega), w19 1 (by omega)]
    · rw [f.1 29 (by omega) (by omega) (by omega) (by omega), tk.1 29 (by omega), w19 29 (by omega)]
def ngA (S : Int32 × Nat) (many m : Nat) : Int32 := if S.1 = -1 then -1 else if many ≤ m then -1 else nI (S.2 / 6 ^ (many - 1 - m) % 6)
theorem sp_doorAt {Post : Int32 → Mem → Prop} {M : Mem} {many m : Nat} {S : Int32 × Nat} (hm : many ≤ 4) (hm2 : m < 1000) (st : StC many M S) (h : Post (ngA S many m) M) : wp_X5_doorAt Post M (nI m) (nI many) := by
  unfold wp_X5_doorAt
  unfold ngA at h
  rw [st.1, nI_leI (by omega) (by omega)]
  refine ⟨fun z => ?_, fun z => ⟨fun y => ?_, fun y => ⟨fun x => ⟨vp_in_nI (by omega) (by omega), ?_⟩, fun x => absurd (nI_lt (a := m) (b := 4) (by omega) (by omega)) x⟩⟩⟩
  · rw [if_pos z] at h; exact h
  · rw [if_neg z, if_pos y] at h; exact h
  · rw [if_neg z, if_neg y] at h
    rw [cl4 (by omega), st.2 z m (by omega)]; exact h
