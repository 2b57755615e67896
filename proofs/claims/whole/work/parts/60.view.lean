/-! ===== observers, and the views of class and model ===== -/
def OB (cls mdl : (Int32 → Mem → Prop) → Mem → Prop) (M : Mem) : Prop := ∃ r : Int32, (∀ (M1 : Mem) (Post : Int32 → Mem → Prop), Fr M M1 → (∀ M', Fr M1 M' → M'.2 = M1.2 → Post r M') → cls Post M1) ∧ (∀ (M1 : Mem) (Post : Int32 → Mem → Prop), Fr M M1 → (∀ M', Fr M1 M' → M'.2 = M1.2 → Post r M') → mdl Post M1)
theorem OB.op {cls mdl : (Int32 → Mem → Prop) → Mem → Prop} {n : Nat} {M : Mem} {A : Prop} {K : Mem → Prop} (h : OB cls mdl M) (hI : Inv n M) (hK : ∀ M', Inv n M' → K M') (hA : A) : cls (fun r M1 => A ∧ mdl (fun r' M2 => (r = r' → K M2) ∧ (¬ r = r' → False)) M1) M := by
  obtain ⟨r, h1, h2⟩ := h
  exact h1 M _ (Fr.rf M) (fun M' f _ => ⟨hA, h2 M' _ f (fun M'' g _ => fin_eq rfl (hK _ ((f.tr g).inv hI)))⟩)
theorem OB.op0 {cls mdl : (Int32 → Mem → Prop) → Mem → Prop} {n : Nat} {M : Mem} {K : Mem → Prop} (h : OB cls mdl M) (hI : Inv n M) (hK : ∀ M', Inv n M' → K M') : cls (fun r M1 => mdl (fun r' M2 => (r = r' → K M2) ∧ (¬ r = r' → False)) M1) M := by
  obtain ⟨r, h1, h2⟩ := h
  exact h1 M _ (Fr.rf M) (fun M' f _ => h2 M' _ f (fun M'' g _ => fin_eq rfl (hK _ ((f.tr g).inv hI))))
theorem OB.one {cls mdl : (Int32 → Mem → Prop) → Mem → Prop} {M : Mem} (r : Int32) (h1 : ∀ (M1 : Mem) (Post : Int32 → Mem → Prop), Fr M M1 → Post r M1 → cls Post M1) (h2 : ∀ (M1 : Mem) (Post : Int32 → Mem → Prop), Fr M M1 → Post r M1 → mdl Post M1) : OB cls mdl M := ⟨r, fun M1 Post f h => h1 M1 Post f (h M1 (Fr.rf _) rfl), fun M1 Post f h => h2 M1 Post f (h M1 (Fr.rf _) rfl)⟩
def cut (n : Nat) (f : Nat → Int32) : Nat → Int32 := fun j => if j < n then f j else 0
theorem cut_lt {n j : Nat} {f : Nat → Int32} (h : j < n) : cut n f j = f j := if_pos h
theorem cut_ext {n : Nat} {f g : Nat → Int32} (h : ∀ j, j < n → f j = g j) : cut n f = cut n g := funext fun j => by
  unfold cut
  by_cases e : j < n
  · rw [if_pos e, if_pos e]; exact h j e
  · rw [if_neg e, if_neg e]
def stC (M : Mem) (o : Nat) : Nat → Nat → Int32
  | 0 => rd M 4
  | 1 => rd M 5
  | 2 => rd M 6
  | 3 => cut 4 (kd M)
  | 4 => cut 2 (rd M (o + 3))
  | 5 => rd M 8
  | 6 => rd M 9
  | 7 => rd M 10
  | _ => cut 4 (rd M (o + 4))
def stM (M : Mem) : Nat → Nat → Int32
  | 0 => rd M 31
  | 1 => rd M 32
  | 2 => rd M 33
  | 3 => cut 4 (rd M 34)
  | 4 => cut 2 (rd M 37)
  | 5 => rd M 38
  | 6 => rd M 39
  | 7 => rd M 40
  | _ => cut 4 (rd M 41)
abbrev TV := (Nat → Int32) × (Nat → Int32) × (Nat → Int32)
def tvC (M : Mem) (o : Nat) : TV := (cut 4 (rd M (o + 1)), cut 4 (rd M (o + 2)), cut 4 (rd M (o + 5)))
def tvM (M : Mem) : TV := (cut 4 (rd M 35), cut 4 (rd M 36), cut 4 (rd M 42))
def tvT (M : Mem) : TV := (cut 4 (rd M 43), cut 4 (rd M 44), cut 4 (rd M 45))
def HOK (H : Nat → Nat → Int32) (a b c d : Nat) : Prop := (∀ k, k < b → ∃ x y, x < a ∧ y < a ∧ x ≠ y ∧ H 0 k = nI x ∧ H 1 k = nI y ∧ lkOK (H 2 k)) ∧ (∀ p, p < 4 → ∃ x, x < 5 ∧ H 3 p = nI x) ∧ (0 < c → ∀ k, k < 2 → ∃ x, x < c ∧ H 4 k = nI x) ∧ (∀ k, k < d → ∃ x y z, x < c ∧ y < c ∧ x ≠ y ∧ z < a ∧ H 5 k = nI x ∧ H 6 k = nI y ∧ H 7 k = nI z) ∧ ∀ k, k < d → ∃ x, 1 ≤ x ∧ x ≤ 9 ∧ H 8 k = nI x
def TOK (T : TV) (a c : Nat) : Prop := (∀ p, p < c → ∃ x, x < a ∧ T.2.1 p = nI x) ∧ ∀ k, k < 4 → zb (T.2.2 k)
def BD (a b c d : Nat) : Prop := a ≤ 6 ∧ b ≤ 6 ∧ c ≤ 4 ∧ d ≤ 4 ∧ (a = 0 ∧ b = 0 ∧ c = 0 ∧ d = 0 ∨ 2 ≤ a ∧ 1 ≤ b ∧ 2 ≤ c ∧ 1 ≤ d)
def CO (M : Mem) (o a b c d : Nat) : Prop := rd M 3 0 = nI a ∧ rd M 3 1 = nI b ∧ rd M 3 2 = nI c ∧ rd M 3 3 = nI d ∧ BD a b c d ∧ HOK (stC M o) a b c d
def MO (M : Mem) (a b c d : Nat) : Prop := rd M 29 4 = nI a ∧ rd M 29 5 = nI b ∧ rd M 29 6 = nI c ∧ rd M 29 7 = nI d ∧ BD a b c d ∧ HOK (stM M) a b c d
theorem Inv.st {n : Nat} {M : Mem} (h : Inv n M) : stC M 59 = stM M := by
  obtain ⟨-, a, b, c, d, -, -, hr, ha, -⟩ := h
  rw [arl] at ha
  funext i
  match i with
  | 0 => exact funext hr.1
  | 1 => exact funext hr.2.1
  | 2 => exact funext hr.2.2.1
  | 3 => exact cut_ext (fun p hp => hr.2.2.2.1 p hp)
  | 4 => exact cut_ext (fun j _ => ha.2.2.1 j)
  | 5 => exact funext hr.2.2.2.2.1
  | 6 => exact funext hr.2.2.2.2.2.1
  | 7 => exact funext hr.2.2.2.2.2.2
  | k + 8 => exact cut_ext (fun j _ => ha.2.2.2.1 j)
theorem Inv.tv {n : Nat} {M : Mem} (h : Inv n M) : tvC M 59 = tvM M := by
  obtain ⟨-, a, b, c, d, -, -, hr, ha, -⟩ := h
  rw [arl] at ha
  exact congr (congrArg Prod.mk (cut_ext (fun j _ => ha.1 j))) (congr (congrArg Prod.mk (cut_ext (fun j _ => ha.2.1 j))) (cut_ext (fun j _ => ha.2.2.2.2.1 j)))
theorem Fr.st {M M1 : Mem} (f : Fr M M1) : stM M1 = stM M := by
  have g : ∀ q, core q → rd M1 q = rd M q := fun q hq => funext (f.1 q hq)
  funext i
  match i with
  | 0 => exact g 31 (by unfold core; omega)
  | 1 => exact g 32 (by unfold core; omega)
  | 2 => exact g 33 (by unfold core; omega)
  | 3 => exact congrArg (cut 4) (g 34 (by unfold core; omega))
  | 4 => exact congrArg (cut 2) (g 37 (by unfold core; omega))
  | 5 => exact g 38 (by unfold core; omega)
  | 6 => exact g 39 (by unfold core; omega)
  | 7 => exact g 40 (by unfold core; omega)
  | k + 8 => exact congrArg (cut 4) (g 41 (by unfold core; omega))
theorem Fr.tv {M M1 : Mem} (f : Fr M M1) : tvM M1 = tvM M := by
  have g : ∀ q, core q → rd M1 q = rd M q := fun q hq => funext (f.1 q hq)
  unfold tvM
  rw [g 35 (by unfold core; omega), g 36 (by unfold core; omega), g 42 (by unfold core; omega)]
/-- what stands in a house of a rooms, b doors, c people, d debts, on both sides -/
theorem Inv.both {n : Nat} {M : Mem} (h : Inv n M) : ∃ a b c d, CO M 59 a b c d ∧ MO M a b c d ∧ TOK (tvM M) a c := by
  have e := h.st
  have e2 := h.tv
  obtain ⟨-, a, b, c, d, hc, hw, hr, ha, haw, -⟩ := h
  obtain ⟨c0', c1', c2', c3', c4', c5', c6', c7', ba, bb, bc, bd, hz⟩ := hc
  have hB : BD a b c d := ⟨ba, bb, bc, bd, hz⟩
  have hH : HOK (stC M 59) a b c d := by
    refine ⟨fun k hk => ?_, fun p hp => ?_, fun h0 k hk => ?_, fun k hk => hw.2.2 k hk, fun k hk => ?_⟩
    · obtain ⟨x, y, z⟩ := hw.1 k hk
      exact ⟨x, y, z⟩
    · obtain ⟨x, hx, hx2⟩ := hw.2.1 p hp
      exact ⟨x, hx, (cut_lt hp).trans hx2⟩
    · obtain ⟨x, hx, hx2⟩ := haw.2.1 h0 k hk
      exact ⟨x, hx, (cut_lt hk).trans hx2⟩
    · obtain ⟨x, hx, hx2, hx3⟩ := haw.2.2.1 k hk
      exact ⟨x, hx, hx2, (cut_lt (by omega)).trans hx3⟩
  refine ⟨a, b, c, d, ⟨c0', c1', c2', c3', hB, hH⟩, ⟨c4', c5', c6', c7', hB, e ▸ hH⟩, e2 ▸ ⟨fun p hp => ?_, fun k hk => ?_⟩⟩
  · obtain ⟨x, hx, hx2⟩ := haw.1 p hp
    exact ⟨x, hx, (cut_lt (by omega)).trans hx2⟩
  · have := haw.2.2.2.1 k hk
    have e3 : (tvC M 59).2.2 k = rd M (59 + 5) k := cut_lt hk
    rw [e3]; exact this
theorem im_if {p A B : Prop} {b : Bool} (h : b = true ↔ p) : ((p → A) ∧ (¬ p → B)) = (if b = true then A else B) := by
  by_cases e : b = true
  · rw [if_pos e]
    exact propext ⟨fun z => z.1 (h.mp e), fun z => ⟨fun _ => z, fun y => absurd (h.mp e) y⟩⟩
  · rw [if_neg e]
    exact propext ⟨fun z => z.2 (fun y => e (h.mpr y)), fun z => ⟨fun y => absurd (h.mpr y) e, fun _ => z⟩⟩
def pasB (H : Nat → Nat → Int32) (p d : Nat) : Bool := decide (¬ H 3 p = 1 ∧ ¬ H 3 p = 4 ∧ (H 3 p = 2 ∨ H 2 d = -1 ∨ H 4 (H 2 d).toNatClampNeg = nI p))
def atB (H : Nat → Nat → Int32) (d : Nat) (r : Int32) : Bool := decide (H 0 d = r ∨ H 1 d = r)
def goB (H : Nat → Nat → Int32) (p d : Nat) (r : Int32) : Bool := atB H d r && pasB H p d
def byH (H : Nat → Nat → Int32) (d : Nat) (r : Int32) : Int32 := byd (H 0) (H 1) d r
def nxt (H : Nat → Nat → Int32) (p d : Nat) (r : Int32) : Int32 := if goB H p d r = true then byH H d r else -1
def cosH (H : Nat → Nat → Int32) (k : Nat) : Int32 := cst (H 3) (H 5) (H 8) k
def whoH (H : Nat → Nat → Int32) (k : Nat) : Nat := (H 5 k).toNatClampNeg
def whmH (H : Nat → Nat → Int32) (k : Nat) : Nat := (H 6 k).toNatClampNeg
def mayB (H : Nat → Nat → Int32) (T : TV) (k : Nat) : Bool := decide (T.2.2 k = 0 ∧ cosH H k ≤ T.1 (whoH H k) ∧ ((H 3 (whoH H k) = 1 ∨ H 3 (whoH H k) = 4) ∨ T.2.1 (whoH H k) = H 7 k ∧ (H 3 (whoH H k) = 3 ∨ T.2.1 (whmH H k) = H 7 k)))
def st1 (H : Nat → Nat → Int32) (f : Nat → Int32) (k : Nat) : Nat → Int32 := fun j => if j = whoH H k then f (whoH H k) - cosH H k else f j
def st2 (H : Nat → Nat → Int32) (f : Nat → Int32) (k : Nat) : Nat → Int32 := fun j => if j = whmH H k then (if st1 H f k (whmH H k) + H 8 k ≤ 99 then st1 H f k (whmH H k) + H 8 k else 99) else st1 H f k j
def stl (H : Nat → Nat → Int32) (T : TV) (k : Nat) : TV := (st2 H T.1 k, T.2.1, fun j => if j = k then 1 else T.2.2 j)
theorem lk2 {x : Int32} (h : lkOK x) : x.toNatClampNeg < 2 := by rcases h with h | h | h <;> rw [h] <;> decide
theorem pas_C {M : Mem} {o a b c d p k : Nat} (hC : CO M o a b c d) (hp : p < 4) (hk : k < b) : pasB (stC M o) p k = true ↔ pasP (rd M 6) (kd M) (rd M (o + 3)) p k := by
  obtain ⟨x, y, -, -, -, -, -, hl⟩ := hC.2.2.2.2.2.1 k hk
  have hl : lkOK (rd M 6 k) := hl
  unfold pasB pasP
  rw [decide_eq_true_iff]
  show (¬ cut 4 (kd M) p = 1 ∧ ¬ cut 4 (kd M) p = 4 ∧ (cut 4 (kd M) p = 2 ∨ rd M 6 k = -1 ∨ cut 2 (rd M (o + 3)) (rd M 6 k).toNatClampNeg = nI p)) ↔ _
  rw [cut_lt hp, cut_lt (lk2 hl)]
theorem pas_M {M : Mem} {a b c d p k : Nat} (hC : MO M a b c d) (hp : p < 4) (hk : k < b) : pasB (stM M) p k = true ↔ pasP (rd M 33) (rd M 34) (rd M 37) p k := by
  obtain ⟨x, y, -, -, -, -, -, hl⟩ := hC.2.2.2.2.2.1 k hk
  have hl : lkOK (rd M 33 k) := hl
  unfold pasB pasP
  rw [decide_eq_true_iff]
  show (¬ cut 4 (rd M 34) p = 1 ∧ ¬ cut 4 (rd M 34) p = 4 ∧ (cut 4 (rd M 34) p = 2 ∨ rd M 33 k = -1 ∨ cut 2 (rd M 37) (rd M 33 k).toNatClampNeg = nI p)) ↔ _
  rw [cut_lt hp, cut_lt (lk2 hl)]
theorem eqc_pass {Post : Int32 → Mem → Prop} {M : Mem} {o a b c d p k : Nat} (hC : CO M o a b c d) (hp : p < 4) (hk : k < b) : wp_X0_mayPass Post M o (nI p) (nI k) = if pasB (stC M o) p k = true then Post 1 M else Post 0 M := by
  obtain ⟨x, y, -, -, -, -, -, hl⟩ := hC.2.2.2.2.2.1 k hk
  rw [eq_mayPass hp (Nat.lt_of_lt_of_le hk hC.2.2.2.2.1.2.1) hl]
  exact im_if (pas_C hC hp hk)
theorem eqc_at {Post : Int32 → Mem → Prop} {M : Mem} {o a b c d k : Nat} {r : Int32} (hC : CO M o a b c d) (hk : k < b) : wp_X4_doorEndsAt Post M (nI k) r = if atB (stC M o) k r = true then Post 1 M else Post 0 M := by
  rw [eq_doorEndsAt (Nat.lt_of_lt_of_le hk hC.2.2.2.2.1.2.1)]
  exact im_if decide_eq_true_iff
theorem eqc_by {Post : Int32 → Mem → Prop} {M : Mem} {o a b c d k : Nat} {r : Int32} (hC : CO M o a b c d) (hk : k < b) : wp_X4_roomBeyond Post M (nI k) r = Post (byH (stC M o) k r) M := eq_roomBeyond (Nat.lt_of_lt_of_le hk hC.2.2.2.2.1.2.1)
theorem eqc_go {Post : Int32 → Mem → Prop} {M : Mem} {o a b c d p k : Nat} (hC : CO M o a b c d) (hp : p < 4) (hk : k < b) : wp_X0_mayGo Post M o (nI p) (nI k) = if goB (stC M o) p k ((tvC M o).2.1 p) = true then Post 1 M else Post 0 M := by
  obtain ⟨x, y, -, -, -, -, -, hl⟩ := hC.2.2.2.2.2.1 k hk
  rw [eq_mayGo hp (Nat.lt_of_lt_of_le hk hC.2.2.2.2.1.2.1) hl]
  refine im_if ?_
  have e : (tvC M o).2.1 p = rd M (o + 2) p := cut_lt hp
  unfold goB goP
  rw [Bool.and_eq_true, pas_C hC hp hk, e]
  exact and_congr decide_eq_true_iff Iff.rfl
theorem eqm_thr {Post : Int32 → Mem → Prop} {M : Mem} {a b c d p k : Nat} {r : Int32} (hC : MO M a b c d) (hp : p < 4) (hk : k < b) : wp_X12_through Post M (nI p) (nI k) r = Post (nxt (stM M) p k r) M := by
  obtain ⟨x, y, -, -, -, -, -, hl⟩ := hC.2.2.2.2.2.1 k hk
  rw [eq_through hp (Nat.lt_of_lt_of_le hk hC.2.2.2.2.1.2.1) hl]
  have g : goB (stM M) p k r = true ↔ atP (rd M 31) (rd M 32) k r ∧ pasP (rd M 33) (rd M 34) (rd M 37) p k := by
    unfold goB
    rw [Bool.and_eq_true, pas_M hC hp hk]
    exact and_congr decide_eq_true_iff Iff.rfl
  rw [im_if g]
  unfold nxt
  by_cases h : goB (stM M) p k r = true
  · rw [if_pos h, if_pos h]; rfl
  · rw [if_neg h, if_neg h]
theorem by_lt {H : Nat → Nat → Int32} {a b c d k : Nat} {r : Int32} (hH : HOK H a b c d) (hk : k < b) : ∃ x, x < a ∧ byH H k r = nI x := by
  obtain ⟨x, y, hx, hy, hxy, e1, e2, -⟩ := hH.1 k hk
  unfold byH byd
  by_cases h : H 0 k = r
  · rw [if_pos h]; exact ⟨y, hy, e2⟩
  · rw [if_neg h]; exact ⟨x, hx, e1⟩
theorem nxt_go {H : Nat → Nat → Int32} {a b c d p k : Nat} {r : Int32} (hB : BD a b c d) (hH : HOK H a b c d) (hk : k < b) : nxt H p k r = -1 ↔ ¬ goB H p k r = true := by
  unfold nxt
  by_cases h : goB H p k r = true
  · rw [if_pos h]
    obtain ⟨x, hx, e⟩ := by_lt (r := r) hH hk
    rw [e]
    exact ⟨fun z => absurd z (nI_nm1 (by have := hB.1; omega)), fun z => absurd h z⟩
  · rw [if_neg h]; exact ⟨fun _ => h, fun _ => rfl⟩
theorem eqc_cost {Post : Int32 → Mem → Prop} {M : Mem} {o a b c d k : Nat} (hC : CO M o a b c d) (hk : k < d) : wp_X0_costOf Post M o (nI k) = Post (cosH (stC M o) k) M := by
  obtain ⟨x, y, z, hx, hy, -, -, e5, e6, e7⟩ := hC.2.2.2.2.2.2.2.2.1 k hk
  have e5 : rd M 8 k = nI x := e5
  have hB := hC.2.2.2.2.1
  unfold BD at hB
  rw [eq_costOf (by omega) (by rw [e5]; exact vp_in_nI (by omega) (by omega))]
  have : cst (kd M) (rd M 8) (rd M (o + 4)) k = cosH (stC M o) k := by
    unfold cosH cst
    show _ = if cut 4 (kd M) (rd M 8 k).toNatClampNeg = 1 then cut 4 (rd M (o + 4)) k + 1 else cut 4 (rd M (o + 4)) k
    rw [e5, cl4 (by omega), cut_lt (by omega), cut_lt (by omega)]
  rw [this]
theorem eqm_cost {Post : Int32 → Mem → Prop} {M : Mem} {a b c d k : Nat} (hC : MO M a b c d) (hk : k < d) : wp_X12_costs Post M (nI k) = Post (cosH (stM M) k) M := by
  obtain ⟨x, y, z, hx, hy, -, -, e5, e6, e7⟩ := hC.2.2.2.2.2.2.2.2.1 k hk
  have e5 : rd M 38 k = nI x := e5
  have hB := hC.2.2.2.2.1
  unfold BD at hB
  rw [eq_costs (by omega) (by rw [e5]; exact vp_in_nI (by omega) (by omega))]
  have : cst (rd M 34) (rd M 38) (rd M 41) k = cosH (stM M) k := by
    unfold cosH cst
    show _ = if cut 4 (rd M 34) (rd M 38 k).toNatClampNeg = 1 then cut 4 (rd M 41) k + 1 else cut 4 (rd M 41) k
    rw [e5, cl4 (by omega), cut_lt (by omega), cut_lt (by omega)]
  rw [this]
