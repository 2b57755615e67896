def sdN (v : Int32) : Int32 := ((((1103515245 : Int64) * (v.toInt64)) + (12345 : Int64)) &&& (2147483647 : Int64)).toInt32
theorem msk31 (x : Int64) : ∃ m, m < 2 ^ 31 ∧ x &&& 2147483647 = lN m := ⟨x.toBitVec.toNat % 2 ^ 31, Nat.mod_lt _ (by decide), Int64.toBitVec_inj.mp (BitVec.eq_of_toNat_eq (by
  show (x.toBitVec &&& 2147483647#64).toNat = (BitVec.ofNat 64 (x.toBitVec.toNat % 2 ^ 31)).toNat
  rw [BitVec.toNat_and, show (2147483647#64).toNat = 2 ^ 31 - 1 from by decide, Nat.and_two_pow_sub_one_eq_mod, BitVec.toNat_ofNat]
  omega))⟩
def drN (v : Int32) (n : Nat) : Nat := ((v / 65536) - (v / 65536) / nI n * nI n).toNatClampNeg
theorem dr_ok (v : Int32) {n : Nat} (h1 : 1 ≤ n) (h2 : n ≤ 6) : drN (sdN v) n < n ∧ (sdN v / 65536) - (sdN v / 65536) / nI n * nI n = nI (drN (sdN v) n) := by
  obtain ⟨m, hm, e⟩ := msk31 (((1103515245 : Int64) * (v.toInt64)) + (12345 : Int64))
  have e2 : sdN v = nI m := by unfold sdN; rw [e, lN_i]
  have e3 : nI m / 65536 = nI (m / 65536) := pk_div (d := 65536) hm (by omega) (by omega)
  have e4 : (nI m / 65536) - (nI m / 65536) / nI n * nI n = nI (m / 65536 % n) := by rw [e3]; exact pk_rem (by omega) (by omega) (by omega)
  have l : m / 65536 % n < n := Nat.mod_lt _ (by omega)
  have e5 : drN (sdN v) n = m / 65536 % n := by unfold drN; rw [e2, e4]; exact cl4 (by omega)
  rw [e5, e2, e4]
  exact ⟨l, rfl⟩
theorem ns_ok (P : Int32 → Mem → Prop) (N : Mem) (v : Int32) (h : P (sdN v) N) : wp_X11_nextSeed P N v := h
theorem dr_eq (P : Int32 → Mem → Prop) (N : Mem) (v : Int32) (h : ¬ v = 0 ∧ P ((sdN (rd N 29 33) / 65536) - (sdN (rd N 29 33) / 65536) / v * v) (wr N 29 33 (sdN (rd N 29 33)))) : wp_X12_draw P N v := by
  rintro M1 rfl
  rw [wr_s]
  exact h
def wnT (H : Nat → Nat → Int32) (T : TV) (p k : Nat) : TV := if goB H p k (T.2.1 p) = true then goT H T p k else T
def wnS (sd : Int32 → Int32) (H : Nat → Nat → Int32) (b c d : Nat) (S : TV × Int32 × Int32) : TV × Int32 × Int32 := ((pyU H false (drN (sd S.2.1) c) (wnT H S.1 (drN (sd S.2.1) c) (drN (sd (sd S.2.1)) b)) d).1, sd (sd S.2.1), S.2.2 + (pyU H false (drN (sd S.2.1) c) (wnT H S.1 (drN (sd S.2.1) c) (drN (sd (sd S.2.1)) b)) d).2)
def wnU (sd : Int32 → Int32) (H : Nat → Nat → Int32) (b c d : Nat) (T : TV) (s : Int32) : Nat → TV × Int32 × Int32
  | 0 => (T, s, 0)
  | n + 1 => wnS sd H b c d (wnU sd H b c d T s n)
def ZP (T : TV) : Prop := ∀ k, k < 4 → zb (T.2.2 k)
theorem zp_stl {H : Nat → Nat → Int32} {T : TV} {k : Nat} (h : ZP T) : ZP (stl H T k) := fun j hj => by
  show zb (if j = k then 1 else T.2.2 j)
  by_cases e : j = k
  · rw [if_pos e]; exact Or.inr rfl
  · rw [if_neg e]; exact h j hj
theorem zp_py {H : Nat → Nat → Int32} {hr : Bool} {p : Nat} {T : TV} (h : ZP T) : ∀ n, ZP (pyU H hr p T n).1 := by
  intro n
  induction n with
  | zero => exact h
  | succ n ih =>
    rw [pyU]
    unfold pyS
    by_cases e : H 5 n = nI p ∧ (hr = true → H 7 n = (pyU H hr p T n).1.2.1 p) ∧ mayB H (pyU H hr p T n).1 n = true
    · rw [if_pos e]; exact zp_stl ih
    · rw [if_neg e]; exact ih
theorem zp_wn {sd : Int32 → Int32} {H : Nat → Nat → Int32} {b c d : Nat} {T : TV} {s : Int32} (h : ZP T) : ∀ n, ZP (wnU sd H b c d T s n).1 := by
  intro n
  induction n with
  | zero => exact h
  | succ n ih =>
    rw [wnU]
    unfold wnS
    refine zp_py ?_ d
    unfold wnT
    by_cases e : goB H (drN (sd (wnU sd H b c d T s n).2.1) c) (drN (sd (sd (wnU sd H b c d T s n).2.1)) b) ((wnU sd H b c d T s n).1.2.1 (drN (sd (wnU sd H b c d T s n).2.1) c)) = true
    · rw [if_pos e]; exact ih
    · rw [if_neg e]; exact ih
def wnR (sd : Int32 → Int32) (H : Nat → Nat → Int32) (b c d : Nat) (T : TV) (s v3 : Int32) (t : Nat) : Int32 := if v3 = 0 then (wnU sd H b c d T s t).2.2 else if v3 = 1 then sumU (wnU sd H b c d T s t).1.2.2 d else (wnU sd H b c d T s t).2.1
theorem sp_wintersC {Post : Int32 → Mem → Prop} {M : Mem} {a b c d t : Nat} {v2 v3 : Int32} (sd : Int32 → Int32) (hns : ∀ (P : Int32 → Mem → Prop) (N : Mem) (v : Int32), P (sd v) N → wp_X11_nextSeed P N v) (dr : ∀ (v : Int32) {n : Nat}, 1 ≤ n → n ≤ 6 → drN (sd v) n < n ∧ (sd v / 65536) - (sd v / 65536) / nI n * nI n = nI (drN (sd v) n)) (hC : CO M 59 a b c d) (hT : ZP (tvC M 59)) (hT7 : ∀ j, j < 6 → zb (rd M 66 j)) (hc : 1 ≤ c) (hb : 1 ≤ b) (ht : t ≤ 60) (h : ∀ M', Fr M M' → M'.2 = M.2 → Post (wnR sd (stC M 59) b c d (tvC M 59) v2 v3 t) M') (P70 : Mem → Int32 → Int32 → Int32 → Prop) (h70 : ∀ (M : Mem) (v4 : Int32) (v5 : Int32) (v6 : Int32), wp_X11_winters_b70 Post (nI t) v2 v3 P70 M v4 v5 v6 → P70 M v4 v5 v6) : wp_X0_takeOver (fun M2 => P70 M2 v2 0 0) M 75 59 := by
  have hB := hC.2.2.2.2.1
  unfold BD at hB
  refine sp_takeOver (by omega) (fun j hj => by have := hT j hj; have e : (tvC M 59).2.2 j = rd M (59 + 5) j := cut_lt hj; rw [e] at this; exact this) hT7 (fun M2 tk => ?_)
  have hC2 := tk.co (by omega) hC
  have hH2 := tk.st (by omega)
  have hT2 := tk.tv
  have hF2 := tk.fr (by omega)
  have hx2 : M2.2 = M.2 := tk.2.2.2.2.2.2.2.2.2.2
  rw [← hH2, ← hT2] at h
  rw [← hT2] at hT
  refine for_up (S := Mem × Int32 × Int32) (P := fun q i => P70 q.1 q.2.1 q.2.2 i) (n := t) (fun i q => FA 75 M2 q.1 ∧ (tvC q.1 75, q.2.1, q.2.2) = wnU sd (stC M2 75) b c d (tvC M2 75) v2 i) (fun q hq => ?_) (fun i q hi hq ih => ?_) 0 (Nat.zero_le _) (M2, v2, 0) ⟨FA.rf 75 M2, rfl⟩
  · obtain ⟨f, e⟩ := hq
    have hC' := f.co (by omega) hC2
    have fin := h q.1 (hF2.tr (f.fr (by omega))) (f.2.trans hx2)
    unfold wnR at fin
    rw [← e] at fin
    refine h70 _ _ _ _ ⟨fun _ => ⟨fun z => ⟨fun y => ?_, fun y => ?_⟩, fun z => ?_⟩, fun z => absurd (Int32.le_refl _) z⟩
    · rw [if_neg z, if_neg y] at fin; exact fin
    · rw [if_neg z, if_pos y] at fin
      have hz : ZP (tvC q.1 75) := by
        have := zp_wn (sd := sd) (H := stC M2 75) (b := b) (c := c) (d := d) (s := v2) hT t
        rw [← e] at this
        exact this
      exact sp_paidDebts hC' hz fin
    · rw [if_pos z] at fin; exact fin
  · obtain ⟨M', v4, v5⟩ := q
    obtain ⟨f, e⟩ := hq
    have f : FA 75 M2 M' := f
    have e : (tvC M' 75, v4, v5) = wnU sd (stC M2 75) b c d (tvC M2 75) v2 i := e
    have hC' := f.co (by omega) hC2
    have hH := f.st (by omega)
    have wn : wnU sd (stC M2 75) b c d (tvC M2 75) v2 (i + 1) = wnS sd (stC M2 75) b c d (tvC M' 75, v4, v5) := by rw [wnU, ← e]
    unfold wnS at wn
    have wn : wnU sd (stC M2 75) b c d (tvC M2 75) v2 (i + 1) = ((pyU (stC M2 75) false (drN (sd v4) c) (wnT (stC M2 75) (tvC M' 75) (drN (sd v4) c) (drN (sd (sd v4)) b)) d).1, sd (sd v4), v5 + (pyU (stC M2 75) false (drN (sd v4) c) (wnT (stC M2 75) (tvC M' 75) (drN (sd v4) c) (drN (sd (sd v4)) b)) d).2) := wn
    obtain ⟨hp, ep⟩ := dr v4 (n := c) (by omega) (by omega)
    obtain ⟨hk, ek⟩ := dr (sd v4) (n := b) (by omega) (by omega)
    refine h70 _ _ _ _ ⟨fun z => absurd z (le_n (by omega) hi), fun _ => ?_⟩
    refine hns _ M' v4 ?_
    refine ⟨by rw [hC'.2.2.1]; exact nI_ne0 (by omega) (by omega), ?_⟩
    rw [hC'.2.2.1, ep]
    rintro x7 rfl
    refine hns _ M' (sd v4) ?_
    refine ⟨by rw [hC'.2.1]; exact nI_ne0 (by omega) (by omega), ?_⟩
    rw [hC'.2.1, ek]
    rintro x8 rfl
    show wp_X0_mayGo (fun r11 M12 => (r11 = 0 → wp_X11_winters_b145 Post (nI t) v2 v3 P70 M12 (sd (sd v4)) v5 (nI i) (nI (drN (sd v4) c))) ∧ (¬ r11 = 0 → wp_X0_goThrough (fun M14 => wp_X11_winters_b145 Post (nI t) v2 v3 P70 M14 (sd (sd v4)) v5 (nI i) (nI (drN (sd v4) c))) M12 75 (nI (drN (sd v4) c)) (nI (drN (sd (sd v4)) b)))) M' 75 (nI (drN (sd v4) c)) (nI (drN (sd (sd v4)) b))
    generalize drN (sd v4) c = p at hp wn ⊢
    generalize drN (sd (sd v4)) b = k at hk wn ⊢
    have last : ∀ M3, FA 75 M2 M3 → tvC M3 75 = wnT (stC M2 75) (tvC M' 75) p k → wp_X11_winters_b145 Post (nI t) v2 v3 P70 M3 (sd (sd v4)) v5 (nI i) (nI p) := by
      intro M3 f3 e3
      have hC3 := f3.co (by omega) hC2
      unfold wp_X11_winters_b145
      refine sp_payAllC false rfl hC3 (by omega) (by omega) (fun M4 f4 e4 => ?_)
      intro x5 hx5 x6 hx6
      rw [hx5, hx6, nI_1]
      rw [f3.st (by omega), e3] at e4
      rw [f3.st (by omega), e3]
      refine ih (M4, sd (sd v4), v5 + (pyU (stC M2 75) false p (wnT (stC M2 75) (tvC M' 75) p k) d).2) ⟨f3.tr f4, ?_⟩
      rw [wn]
      show (tvC M4 75, sd (sd v4), v5 + (pyU (stC M2 75) false p (wnT (stC M2 75) (tvC M' 75) p k) d).2) = _
      rw [e4]
    rw [eqc_go hC' (by omega) hk, hH]
    by_cases g : goB (stC M2 75) p k ((tvC M' 75).2.1 p) = true
    · rw [if_pos g]
      refine ⟨fun z => absurd z (by decide), fun _ => ?_⟩
      refine sp_goT hC' (by omega) hk (fun M3 f3 e3 => last M3 (f.tr f3) ?_)
      rw [e3, hH]
      unfold wnT
      rw [if_pos g]
    · rw [if_neg g]
      refine ⟨fun _ => last M' f ?_, fun z => absurd rfl z⟩
      unfold wnT
      rw [if_neg g]
/-- the model's frame when it draws -/
def FW (M M' : Mem) : Prop := (∀ q, q ≠ 43 → q ≠ 44 → q ≠ 45 → ∀ j, (q = 29 → j ≠ 33) → rd M' q j = rd M q j) ∧ M'.2 = M.2
theorem FW.rf (M : Mem) : FW M M := ⟨fun _ _ _ _ _ _ => rfl, rfl⟩
theorem FW.tr {M N K : Mem} (f : FW M N) (g : FW N K) : FW M K := ⟨fun q h1 h2 h3 j h4 => (g.1 q h1 h2 h3 j h4).trans (f.1 q h1 h2 h3 j h4), g.2.trans f.2⟩
theorem FT.fw {M M' : Mem} (f : FT M M') : FW M M' := ⟨fun q h1 h2 h3 j _ => f.1 q h1 h2 h3 j, f.2⟩
theorem FW.st {M M' : Mem} (f : FW M M') : stM M' = stM M := st_of (fun q hq j => f.1 q (by omega) (by omega) (by omega) j (by omega))
theorem FW.mo {a b c d : Nat} {M M' : Mem} (f : FW M M') (h : MO M a b c d) : MO M' a b c d := by
  unfold MO at h ⊢
  rw [f.1 29 (by omega) (by omega) (by omega) 4 (by omega), f.1 29 (by omega) (by omega) (by omega) 5 (by omega), f.1 29 (by omega) (by omega) (by omega) 6 (by omega), f.1 29 (by omega) (by omega) (by omega) 7 (by omega), f.st]
  exact h
theorem FW.fr {M M' : Mem} (f : FW M M') : Fr M M' := ⟨fun q hq j => by unfold core at hq; exact f.1 q (by omega) (by omega) (by omega) j (by omega), f.1 1 (by omega) (by omega) (by omega) 1 (by omega), fun k hk => by unfold slots29 at hk; exact f.1 29 (by omega) (by omega) (by omega) k (by omega)⟩
theorem fw_sd {M : Mem} {v : Int32} : FW M (wr M 29 33 v) := ⟨fun q _ _ _ j h => by
  by_cases e : q = 29
  · rw [wr_k _ (h e)]
  · rw [wr_n e], rfl⟩
theorem sp_wintersM {Post : Int32 → Mem → Prop} {M : Mem} {a b c d t : Nat} {v2 v3 : Int32} (sd : Int32 → Int32) (hns : ∀ (P : Int32 → Mem → Prop) (N : Mem) (v : Int32), (¬ v = 0 ∧ P ((sd (rd N 29 33) / 65536) - (sd (rd N 29 33) / 65536) / v * v) (wr N 29 33 (sd (rd N 29 33)))) → wp_X12_draw P N v) (dr : ∀ (v : Int32) {n : Nat}, 1 ≤ n → n ≤ 6 → drN (sd v) n < n ∧ (sd v / 65536) - (sd v / 65536) / nI n * nI n = nI (drN (sd v) n)) (hC : MO M a b c d) (hc : 1 ≤ c) (hb : 1 ≤ b) (ht : t ≤ 60) (h : ∀ M', FW M M' → Post (wnR sd (stM M) b c d (tvM M) v2 v3 t) M') (P56 : Mem → Int32 → Int32 → Prop) (h56 : ∀ (M : Mem) (v4 : Int32) (v5 : Int32), wp_X12_winters_b56 Post (nI t) v2 v3 P56 M v4 v5 → P56 M v4 v5) : wp_X12_begin (fun M9 => P56 M9 0 0) (wr M 29 33 v2) := by
  have hB := hC.2.2.2.2.1
  have hB2 := hB
  unfold BD at hB
  refine sp_begin (fun M2 f2 g2 => ?_)
  have F2 : FW M M2 := fw_sd.tr f2.fw
  have hC2 := F2.mo hC
  have hH2 := F2.st
  have hT2 : tvT M2 = tvM M := by
    rw [g2]
    exact tv_ext (cut_ext fun j _ => by rw [wr_n (by omega)]) (cut_ext fun j _ => by rw [wr_n (by omega)]) (cut_ext fun j _ => by rw [wr_n (by omega)])
  have s2 : rd M2 29 33 = v2 := by rw [f2.1 29 (by omega) (by omega) (by omega), wr_s]
  rw [← hT2] at h
  refine for_up (S := Mem × Int32) (P := fun q i => P56 q.1 q.2 i) (n := t) (fun i q => FW M q.1 ∧ (tvT q.1, rd q.1 29 33, q.2) = wnU sd (stM M) b c d (tvT M2) v2 i) (fun q hq => ?_) (fun i q hi hq ih => ?_) 0 (Nat.zero_le _) (M2, 0) ⟨F2, by show (tvT M2, rd M2 29 33, (0 : Int32)) = (tvT M2, v2, 0); rw [s2]⟩
  · obtain ⟨f, e⟩ := hq
    have hC' := f.mo hC
    have fin := h q.1 f
    unfold wnR at fin
    rw [← e] at fin
    refine h56 _ _ _ ⟨fun _ => ⟨fun z => ⟨fun y => ?_, fun y => ?_⟩, fun z => ?_⟩, fun z => absurd (Int32.le_refl _) z⟩
    · rw [if_neg z, if_neg y] at fin; exact fin
    · rw [if_neg z, if_pos y] at fin
      exact sp_paidMany hC'.2.2.2.1 (by omega) fin
    · rw [if_pos z] at fin; exact fin
  · obtain ⟨M', v5⟩ := q
    obtain ⟨f, e⟩ := hq
    have f : FW M M' := f
    have e : (tvT M', rd M' 29 33, v5) = wnU sd (stM M) b c d (tvT M2) v2 i := e
    have hC' := f.mo hC
    have wn : wnU sd (stM M) b c d (tvT M2) v2 (i + 1) = wnS sd (stM M) b c d (tvT M', rd M' 29 33, v5) := by rw [wnU, ← e]
    unfold wnS at wn
    generalize hv4 : rd M' 29 33 = v4 at wn e
    have wn : wnU sd (stM M) b c d (tvT M2) v2 (i + 1) = ((pyU (stM M) false (drN (sd v4) c) (wnT (stM M) (tvT M') (drN (sd v4) c) (drN (sd (sd v4)) b)) d).1, sd (sd v4), v5 + (pyU (stM M) false (drN (sd v4) c) (wnT (stM M) (tvT M') (drN (sd v4) c) (drN (sd (sd v4)) b)) d).2) := wn
    obtain ⟨hp, ep⟩ := dr v4 (n := c) (by omega) (by omega)
    obtain ⟨hk, ek⟩ := dr (sd v4) (n := b) (by omega) (by omega)
    refine h56 _ _ _ ⟨fun z => absurd z (le_n (by omega) hi), fun _ => ?_⟩
    refine hns _ M' (rd M' 29 6) ?_
    rw [hv4, hC'.2.2.1, ep]
    refine ⟨nI_ne0 (by omega) (by omega), ?_⟩
    refine hns _ (wr M' 29 33 (sd v4)) (rd (wr M' 29 33 (sd v4)) 29 5) ?_
    rw [wr_s, wr_k _ (by omega), hC'.2.1, ek]
    refine ⟨nI_ne0 (by omega) (by omega), ?_⟩
    generalize drN (sd v4) c = p at hp wn ⊢
    generalize drN (sd (sd v4)) b = k at hk wn ⊢
    have n1 := cl4 (p := p) (by omega)
    have vp : vp_in (nI p) 4 := vp_in_nI (by omega) (by omega)
    have F4 : FW M (wr (wr M' 29 33 (sd v4)) 29 33 (sd (sd v4))) := f.tr (fw_sd.tr fw_sd)
    have hC4 := F4.mo hC
    have hT4 : tvT (wr (wr M' 29 33 (sd v4)) 29 33 (sd (sd v4))) = tvT M' := tv_ext (cut_ext fun j _ => by rw [wr_n (by omega), wr_n (by omega)]) (cut_ext fun j _ => by rw [wr_n (by omega), wr_n (by omega)]) (cut_ext fun j _ => by rw [wr_n (by omega), wr_n (by omega)])
    have s4 : rd (wr (wr M' 29 33 (sd v4)) 29 33 (sd (sd v4))) 29 33 = sd (sd v4) := wr_s _ _ _ _
    generalize wr (wr M' 29 33 (sd v4)) 29 33 (sd (sd v4)) = N at F4 hC4 hT4 s4 ⊢
    have er : (tvT M').2.1 p = rd N 44 p := by rw [← hT4]; exact cut_lt (by omega)
    have last : ∀ w, (fun j => if j = p then w else (tvT M').2.1 j) = (wnT (stM M) (tvT M') p k).2.1 → wp_X12_winters_b119 Post (nI t) v2 v3 P56 N v5 (nI i) (nI p) (nI p) w := by
      intro w hw
      unfold wp_X12_winters_b119
      rw [n1]
      refine ⟨vp, ?_⟩
      rintro M5 rfl
      have F5 : FW N (wr N 44 p w) := ⟨fun q h1 h2 h3 j _ => by rw [wr_n h2], rfl⟩
      have hC5 := (F4.tr F5).mo hC
      have w1 : (wnT (stM M) (tvT M') p k).1 = (tvT M').1 := by
        unfold wnT
        by_cases g : goB (stM M) p k ((tvT M').2.1 p) = true
        · rw [if_pos g]; rfl
        · rw [if_neg g]
      have w3 : (wnT (stM M) (tvT M') p k).2.2 = (tvT M').2.2 := by
        unfold wnT
        by_cases g : goB (stM M) p k ((tvT M').2.1 p) = true
        · rw [if_pos g]; rfl
        · rw [if_neg g]
      have hT5 : tvT (wr N 44 p w) = wnT (stM M) (tvT M') p k := by
        refine tv_ext ?_ ?_ ?_
        · rw [w1, ← hT4]
          exact cut_ext fun j _ => by rw [wr_n (by omega)]
        · rw [← hw, ← hT4]
          refine funext fun j => ?_
          show cut 4 (rd (wr N 44 p w) 44) j = if j = p then w else cut 4 (rd N 44) j
          unfold cut
          by_cases hj : j < 4
          · rw [if_pos hj, wr_q, if_pos hj]
          · rw [if_neg hj, if_neg hj, if_neg (by omega)]
        · rw [w3, ← hT4]
          exact cut_ext fun j _ => by rw [wr_n (by omega)]
      have s5 : rd (wr N 44 p w) 29 33 = sd (sd v4) := by rw [wr_n (by omega)]; exact s4
      refine sp_payAllM hC5 (fun M6 f6 e6 => ?_)
      intro x4 hx4 x5 hx5
      rw [hx4, hx5, nI_1]
      rw [(F4.tr F5).st, hT5] at e6
      rw [(F4.tr F5).st, hT5]
      refine ih (M6, _) ⟨(F4.tr F5).tr f6.fw, ?_⟩
      rw [wn]
      show (tvT M6, rd M6 29 33, _) = _
      rw [e6, f6.1 29 (by omega) (by omega) (by omega), s5]
    rw [n1]
    refine ⟨vp, ?_⟩
    rw [eqm_thr hC4 (by omega) hk, F4.st, nxt_go hB2 (F4.st ▸ hC4.2.2.2.2.2) hk, ← er]
    refine ⟨fun z => ?_, fun z => ⟨vp, ?_⟩⟩
    · have g := Classical.not_not.mp z
      refine last _ ?_
      unfold wnT nxt
      rw [if_pos g, if_pos g]
      rfl
    · refine last _ ?_
      unfold wnT
      rw [if_neg z]
      refine funext fun j => ?_
      by_cases e : j = p
      · rw [if_pos e, e]
      · rw [if_neg e]
