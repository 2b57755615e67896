/-! ===== the page: what the class takes ===== -/
theorem ch_all : ∀ x, x < 127 → ((nI x).toUInt32 % 65536).toInt32 = nI x := by decide +kernel
theorem by_all : ∀ x, x < 127 → (nI x).toInt8.toInt32 = nI x := by decide +kernel
def stF : Nat → Nat → Nat
  | 0, 0 => 111
  | 0, 1 => 97
  | 0, _ => 98
  | _, 0 => 112
  | _, 1 => 114
  | _, 2 => 98
  | _, 3 => 104
  | _, _ => 100
def ixU (k x : Nat) : Int32 := if k = 0 then (if x = 111 then 0 else if x = 97 then 1 else if x = 98 then 2 else -1) else if x = 112 then 0 else if x = 114 then 1 else if x = 98 then 2 else if x = 104 then 3 else if x = 100 then 4 else -1
theorem ix_hit : ∀ k, k < 2 → ∀ j, j < slen k → ixU k (stF k j) = nI j := by decide +kernel
theorem ix_by : ∀ k, k < 2 → ∀ j, j < slen k → sbyt k j = nI (stF k j) ∧ stF k j < 127 := by decide +kernel
theorem ix_no {k x : Nat} (hk : k < 2) (h : ∀ j, j < slen k → stF k j ≠ x) : ixU k x = -1 := by
  rcases (show k = 0 ∨ k = 1 by omega) with rfl | rfl
  · have h0 := h 0 (by decide)
    have h1 := h 1 (by decide)
    have h2 := h 2 (by decide)
    unfold ixU
    rw [if_pos rfl, if_neg (fun e => h0 e.symm), if_neg (fun e => h1 e.symm), if_neg (fun e => h2 e.symm)]
  · have h0 := h 0 (by decide)
    have h1 := h 1 (by decide)
    have h2 := h 2 (by decide)
    have h3 := h 3 (by decide)
    have h4 := h 4 (by decide)
    unfold ixU
    rw [if_neg (by decide), if_neg (fun e => h0 e.symm), if_neg (fun e => h1 e.symm), if_neg (fun e => h2 e.symm), if_neg (fun e => h3 e.symm), if_neg (fun e => h4 e.symm)]
theorem sl_lt : ∀ k, k < 2 → slen k < 1000 ∧ 0 < slen k ∧ (Int32.ofNat (slen k)) >>> ((0 : Int32) &&& 31) = nI (slen k) := by decide +kernel
theorem sp_ixc {Post : Int32 → Mem → Prop} {M : Mem} {k x : Nat} (hk : k < 2) (hx : x < 127) (h : Post (ixU k x) M) : wp_J1_indexOfChar_4cfef Post M k (nI x) (nI 0) (nI (slen k)) := by
  intro P7 h7 y hy
  rw [hy, by_all x hx]
  have hs := (sl_lt k hk).1
  refine for_up (S := Unit) (P := fun _ i => P7 M (nI x) i) (n := slen k) (fun i _ => ∀ j, j < i → stF k j ≠ x) (fun _ hI => h7 _ _ _ ⟨fun _ => ?_, fun z => absurd (Int32.le_refl _) z⟩) (fun i _ hi hI ih => h7 _ _ _ ⟨fun z => absurd z (le_n hs hi), fun _ => ⟨vp_in_nI hi (by omega), fun z w hw => ?_, fun z => ?_⟩⟩) 0 (Nat.zero_le _) () (fun j hj => absurd hj (Nat.not_lt_zero _))
  · rw [← ix_no hk hI]; exact h
  · rw [hw, nI_1]
    refine ih () (fun j hj => ?_)
    by_cases e : j < i
    · exact hI j e
    · have : j = i := by omega
      subst this
      intro e2
      refine z ?_
      rw [cl4 (by omega), (ix_by k hk j hi).1, e2]
  · rw [cl4 (by omega), (ix_by k hk i hi).1, nI_eq (by have := (ix_by k hk i hi).2; omega) (by omega)] at z
    rw [← ix_hit k hk i hi, z]
    exact h
theorem sp_index {Post : Int32 → Mem → Prop} {M : Mem} {k x : Nat} (hk : k < 2) (hx : x < 127) (h : Post (ixU k x) M) : wp_J0_indexOf_0f7a4 Post M k (nI x) := by
  obtain ⟨s1, s2, s3⟩ := sl_lt k hk
  refine ⟨fun z => absurd z (by decide), fun _ => ⟨fun z => absurd rfl z, fun _ => ⟨fun z => absurd z (by decide), fun _ => ⟨fun z => absurd z (by decide), fun _ => ⟨rfl, ?_⟩⟩⟩⟩⟩
  show wp_J1_indexOf_4cfef (fun r5 M6 => (fun r1 M2 => Post r1 M2) r5 M6) M k (nI x) 0 (Int32.ofNat (slen k) >>> ((0 : Int32) &&& 31))
  rw [s3]
  refine ⟨fun z => absurd z (nI_pos (by omega)), fun _ => ⟨fun z => absurd z (nI_nlt (a := 255) (b := x) (by omega) (by omega)), fun _ => ⟨fun _ y hy w hw => ?_, fun z => absurd z (by decide)⟩⟩⟩
  have ey : y = nI 0 := by rw [hy]; decide
  have ew : w = nI (slen k) := by
    rw [hw]
    exact if_neg (fun z => absurd z (nI_nlt (a := slen k) (b := slen k) (Nat.le_refl _) (by omega)))
  rw [ey, ew]
  exact ⟨fun _ => sp_ixc hk hx h, fun z => absurd (nI_lt (a := 0) (b := slen k) s2 (by omega)) z⟩
def CS (M : Mem) (pt fd fi R dr pe de : Nat) : Prop := rd M 1 4 = nI pt ∧ rd M 1 5 = nI fd ∧ rd M 1 6 = nI fi ∧ rd M 1 7 = nI R ∧ rd M 1 8 = nI dr ∧ rd M 1 9 = nI pe ∧ rd M 1 10 = nI de
def FPg (M M' : Mem) : Prop := (∀ q, q ≠ 1 → ∀ j, rd M' q j = rd M q j) ∧ ∀ j, j < 4 → rd M' 1 j = rd M 1 j
theorem FPg.rf (M : Mem) : FPg M M := ⟨fun _ _ _ => rfl, fun _ _ => rfl⟩
theorem FPg.tr {M N K : Mem} (h : FPg M N) (g : FPg N K) : FPg M K := ⟨fun q hq j => (g.1 q hq j).trans (h.1 q hq j), fun j hj => (g.2 j hj).trans (h.2 j hj)⟩
theorem FPg.w (M : Mem) {k : Nat} (v : Int32) (hk : 4 ≤ k) : FPg M (wr M 1 k v) := ⟨fun q hq j => wr_n hq j, fun j hj => wr_k 1 (by omega)⟩
section CSw
variable {M : Mem} {pt fd fi R dr pe de : Nat}
theorem CS.w4 (h : CS M pt fd fi R dr pe de) (x : Nat) : CS (wr M 1 4 (nI x)) x fd fi R dr pe de := ⟨wr_s _ _ _ _, (wr_k 1 (by omega)).trans h.2.1, (wr_k 1 (by omega)).trans h.2.2.1, (wr_k 1 (by omega)).trans h.2.2.2.1, (wr_k 1 (by omega)).trans h.2.2.2.2.1, (wr_k 1 (by omega)).trans h.2.2.2.2.2.1, (wr_k 1 (by omega)).trans h.2.2.2.2.2.2⟩
theorem CS.w5 (h : CS M pt fd fi R dr pe de) (x : Nat) : CS (wr M 1 5 (nI x)) pt x fi R dr pe de := ⟨(wr_k 1 (by omega)).trans h.1, wr_s _ _ _ _, (wr_k 1 (by omega)).trans h.2.2.1, (wr_k 1 (by omega)).trans h.2.2.2.1, (wr_k 1 (by omega)).trans h.2.2.2.2.1, (wr_k 1 (by omega)).trans h.2.2.2.2.2.1, (wr_k 1 (by omega)).trans h.2.2.2.2.2.2⟩
theorem CS.w6 (h : CS M pt fd fi R dr pe de) (x : Nat) : CS (wr M 1 6 (nI x)) pt fd x R dr pe de := ⟨(wr_k 1 (by omega)).trans h.1, (wr_k 1 (by omega)).trans h.2.1, wr_s _ _ _ _, (wr_k 1 (by omega)).trans h.2.2.2.1, (wr_k 1 (by omega)).trans h.2.2.2.2.1, (wr_k 1 (by omega)).trans h.2.2.2.2.2.1, (wr_k 1 (by omega)).trans h.2.2.2.2.2.2⟩
theorem CS.w7 (h : CS M pt fd fi R dr pe de) (x : Nat) : CS (wr M 1 7 (nI x)) pt fd fi x dr pe de := ⟨(wr_k 1 (by omega)).trans h.1, (wr_k 1 (by omega)).trans h.2.1, (wr_k 1 (by omega)).trans h.2.2.1, wr_s _ _ _ _, (wr_k 1 (by omega)).trans h.2.2.2.2.1, (wr_k 1 (by omega)).trans h.2.2.2.2.2.1, (wr_k 1 (by omega)).trans h.2.2.2.2.2.2⟩
theorem CS.w8 (h : CS M pt fd fi R dr pe de) (x : Nat) : CS (wr M 1 8 (nI x)) pt fd fi R x pe de := ⟨(wr_k 1 (by omega)).trans h.1, (wr_k 1 (by omega)).trans h.2.1, (wr_k 1 (by omega)).trans h.2.2.1, (wr_k 1 (by omega)).trans h.2.2.2.1, wr_s _ _ _ _, (wr_k 1 (by omega)).trans h.2.2.2.2.2.1, (wr_k 1 (by omega)).trans h.2.2.2.2.2.2⟩
theorem CS.w9 (h : CS M pt fd fi R dr pe de) (x : Nat) : CS (wr M 1 9 (nI x)) pt fd fi R dr x de := ⟨(wr_k 1 (by omega)).trans h.1, (wr_k 1 (by omega)).trans h.2.1, (wr_k 1 (by omega)).trans h.2.2.1, (wr_k 1 (by omega)).trans h.2.2.2.1, (wr_k 1 (by omega)).trans h.2.2.2.2.1, wr_s _ _ _ _, (wr_k 1 (by omega)).trans h.2.2.2.2.2.2⟩
theorem CS.w10 (h : CS M pt fd fi R dr pe de) (x : Nat) : CS (wr M 1 10 (nI x)) pt fd fi R dr pe x := ⟨(wr_k 1 (by omega)).trans h.1, (wr_k 1 (by omega)).trans h.2.1, (wr_k 1 (by omega)).trans h.2.2.1, (wr_k 1 (by omega)).trans h.2.2.2.1, (wr_k 1 (by omega)).trans h.2.2.2.2.1, (wr_k 1 (by omega)).trans h.2.2.2.2.2.1, wr_s _ _ _ _⟩
variable {Post : Int32 → Mem → Prop} {x b : Nat}
theorem c_tif0 {v : Int32} (hv : zb v) (k : ∀ M', FPg M M' → Post v M') : wp_X6_takesIf Post M v := fun M1 e1 => ⟨hv, k M1 (e1 ▸ FPg.w M _ (by omega))⟩
theorem c_tif {v : Int32} (h : CS M pt fd fi R dr pe de) (hv : zb v) (k : ∀ M', FPg M M' → CS M' pt (fd + 1) fi R dr pe de → Post v M') : wp_X6_takesIf Post M v := fun M1 e1 => by
  rw [h.2.1, nI_1] at e1
  subst e1
  exact ⟨hv, k _ (FPg.w M _ (by omega)) (h.w5 (fd + 1))⟩
theorem c_open (h : CS M pt fd fi R dr pe de) (k : ∀ M', FPg M M' → CS M' x 0 fi R dr pe de → Post 1 M') : wp_X6_opens Post M (nI x) := fun M1 e1 M2 e2 => by
  subst e1
  subst e2
  exact k _ ((FPg.w M _ (by omega)).tr (FPg.w _ _ (by omega))) ((h.w4 x).w5 0)
theorem c_dig (hx : x < 1000) (hb : b < 900) (h1 : 48 ≤ x ∧ x < 48 + b → Post 1 M) (h0 : ¬ (48 ≤ x ∧ x < 48 + b) → Post 0 M) : wp_X6_isDigitBelow Post M (nI x) (nI b) := by
  refine ⟨fun z => h0 (fun y => absurd z (nI_nlt (a := x) (b := 48) (by omega) (by omega))), fun z => ?_⟩
  have hx48 : 48 ≤ x := by
    refine Nat.le_of_not_lt (fun y => z ?_)
    exact nI_lt (a := x) (b := 48) (by omega) (by omega)
  have e : nI x - 48 = nI (x - 48) := pk_sub (b := 48) hx48
  rw [e, nI_leI (by omega) (by omega)]
  exact ⟨fun y => h0 (by omega), fun y => h1 (by omega)⟩
theorem c_first (h : CS M pt fd fi R dr pe de) (hx : x < 1000) (hb : b < 900) (k1 : 48 ≤ x ∧ x < 48 + b → ∀ M', FPg M M' → CS M' pt (fd + 1) (x - 48) R dr pe de → Post 1 M') (k0 : ¬ (48 ≤ x ∧ x < 48 + b) → ∀ M', FPg M M' → Post 0 M') : wp_X6_takesFirst Post M (nI x) (nI b) := fun M1 e1 => by
  refine c_dig hx hb (fun z => ?_) (fun z => ?_)
  · have e : nI x - 48 = nI (x - 48) := pk_sub (b := 48) z.1
    rw [e] at e1
    subst e1
    exact c_tif (h.w6 (x - 48)) (Or.inr rfl) (fun M' f' c' => ⟨Or.inr rfl, k1 z M' ((FPg.w M _ (by omega)).tr f') c'⟩)
  · subst e1
    exact c_tif0 (Or.inl rfl) (fun M' f' => ⟨Or.inl rfl, k0 z M' ((FPg.w M _ (by omega)).tr f')⟩)
theorem c_other (h : CS M pt fd fi R dr pe de) (hx : x < 1000) (hb : b < 900) (hf : fi < 900) (k1 : 48 ≤ x ∧ x < 48 + b ∧ x - 48 ≠ fi → ∀ M', FPg M M' → CS M' pt (fd + 1) fi R dr pe de → Post 1 M') (k0 : ¬ (48 ≤ x ∧ x < 48 + b ∧ x - 48 ≠ fi) → ∀ M', FPg M M' → Post 0 M') : wp_X6_takesOther Post M (nI x) (nI b) := by
  refine c_dig hx hb (fun z => ⟨fun y => absurd y (by decide), fun _ => ?_⟩) (fun z => ⟨fun _ => ?_, fun y => absurd rfl y⟩)
  · have e : nI x - 48 = nI (x - 48) := pk_sub (b := 48) z.1
    rw [e, h.2.2.1, nI_eq (by omega) (by omega)]
    refine ⟨fun y => ?_, fun y => ?_⟩
    · exact c_tif0 (Or.inl rfl) (fun M' f' => ⟨Or.inl rfl, k0 (fun w => w.2.2 y) M' f'⟩)
    · exact c_tif h (Or.inr rfl) (fun M' f' c' => ⟨Or.inr rfl, k1 ⟨z.1, z.2, y⟩ M' f' c'⟩)
  · exact c_tif0 (Or.inl rfl) (fun M' f' => ⟨Or.inl rfl, k0 (fun w => z ⟨w.1, w.2.1⟩) M' f'⟩)
theorem c_dgt (h : CS M pt fd fi R dr pe de) (hx : x < 1000) (hb : b < 900) (k1 : 48 ≤ x ∧ x < 48 + b → ∀ M', FPg M M' → CS M' pt (fd + 1) fi R dr pe de → Post 1 M') (k0 : ¬ (48 ≤ x ∧ x < 48 + b) → ∀ M', FPg M M' → Post 0 M') : wp_X6_isDigitBelow (fun r2 M3 => wp_X6_takesIf (fun r4 M5 => zb r4 ∧ Post r4 M5) M3 r2) M (nI x) (nI b) := by
  refine c_dig hx hb (fun z => ?_) (fun z => ?_)
  · exact c_tif h (Or.inr rfl) (fun M' f' c' => ⟨Or.inr rfl, k1 z M' f' c'⟩)
  · exact c_tif0 (Or.inl rfl) (fun M' f' => ⟨Or.inl rfl, k0 z M' f'⟩)
theorem ix_neg {k x : Nat} (hk : k < 2) : ixU k x < 0 ↔ ¬ (∃ j, j < slen k ∧ stF k j = x) := by
  by_cases e : ∃ j, j < slen k ∧ stF k j = x
  · obtain ⟨j, hj, rfl⟩ := e
    rw [ix_hit k hk j hj]
    exact ⟨fun z => absurd z (nI_pos (by have := (sl_lt k hk).1; omega)), fun z => absurd ⟨j, hj, rfl⟩ z⟩
  · rw [ix_no hk (fun j hj y => e ⟨j, hj, y⟩)]
    exact ⟨fun _ => e, fun _ => by decide⟩
theorem ix_lock {x : Nat} : (∃ j, j < slen 0 ∧ stF 0 j = x) ↔ x = 111 ∨ x = 97 ∨ x = 98 := by
  constructor
  · rintro ⟨j, hj, rfl⟩
    have hj : j < 3 := hj
    rcases (show j = 0 ∨ j = 1 ∨ j = 2 by omega) with rfl | rfl | rfl <;> decide
  · rintro (rfl | rfl | rfl)
    · exact ⟨0, by decide, rfl⟩
    · exact ⟨1, by decide, rfl⟩
    · exact ⟨2, by decide, rfl⟩
def kdOK (x : Nat) : Prop := x = 112 ∨ x = 114 ∨ x = 98 ∨ x = 104 ∨ x = 100
theorem ix_kind {x : Nat} : (∃ j, j < slen 1 ∧ stF 1 j = x) ↔ kdOK x := by
  constructor
  · rintro ⟨j, hj, rfl⟩
    have hj : j < 5 := hj
    unfold kdOK
    rcases (show j = 0 ∨ j = 1 ∨ j = 2 ∨ j = 3 ∨ j = 4 by omega) with rfl | rfl | rfl | rfl | rfl <;> decide
  · rintro (rfl | rfl | rfl | rfl | rfl)
    · exact ⟨0, by decide, rfl⟩
    · exact ⟨1, by decide, rfl⟩
    · exact ⟨2, by decide, rfl⟩
    · exact ⟨3, by decide, rfl⟩
    · exact ⟨4, by decide, rfl⟩
/-- a letter that must be one of a row -/
theorem c_ix {k : Nat} (h : CS M pt fd fi R dr pe de) (hk : k < 2) (hx : x < 127) (k1 : (∃ j, j < slen k ∧ stF k j = x) → ∀ M', FPg M M' → CS M' pt (fd + 1) fi R dr pe de → Post 1 M') (k0 : ¬ (∃ j, j < slen k ∧ stF k j = x) → ∀ M', FPg M M' → Post 0 M') : wp_J0_indexOf_0f7a4 (fun r6 M7 => (r6 < 0 → wp_X6_takesIf (fun r8 M9 => zb r8 ∧ Post r8 M9) M7 0) ∧ (¬ r6 < 0 → wp_X6_takesIf (fun r10 M11 => zb r10 ∧ Post r10 M11) M7 1)) M k (nI x) := by
  refine sp_index hk hx ?_
  rw [ix_neg hk]
  refine ⟨fun z => c_tif0 (Or.inl rfl) (fun M' f' => ⟨Or.inl rfl, k0 z M' f'⟩), fun z => c_tif h (Or.inr rfl) (fun M' f' c' => ⟨Or.inr rfl, k1 (Classical.not_not.mp z) M' f' c'⟩)⟩
end CSw
