/-! ===== the page: the class, state by state ===== -/
section CTk
variable {M : Mem} {fd fi R dr pe de x : Nat} {Post : Int32 → Mem → Prop}
theorem tk_0 {pt : Nat} (h : CS M pt fd fi R dr pe de) (e : pt = 0) {v : Int32} (k : wp_X6_takesInRooms (fun r M2 => zb r ∧ Post r M2) M v) : wp_X6_takes Post M v := by
  unfold wp_X6_takes
  rw [h.1, e]
  exact ⟨fun _ => k, fun z => absurd z (by decide), fun z => absurd z (by decide), fun z => absurd (by decide) z⟩
theorem tk_1 {pt : Nat} (h : CS M pt fd fi R dr pe de) (e : pt = 1) {v : Int32} (k : wp_X6_takesInDoors (fun r M2 => zb r ∧ Post r M2) M v) : wp_X6_takes Post M v := by
  unfold wp_X6_takes
  rw [h.1, e]
  exact ⟨fun z => absurd z (by decide), fun _ => k, fun z => absurd z (by decide), fun _ z => absurd (by decide) z⟩
theorem tk_2 {pt : Nat} (h : CS M pt fd fi R dr pe de) (e : pt = 2) {v : Int32} (k : wp_X6_takesInPeople (fun r M2 => zb r ∧ Post r M2) M v) : wp_X6_takes Post M v := by
  unfold wp_X6_takes
  rw [h.1, e]
  exact ⟨fun z => absurd z (by decide), fun z => absurd z (by decide), fun _ => k, fun _ _ z => absurd (by decide) z⟩
theorem tk_3 {pt : Nat} (h : CS M pt fd fi R dr pe de) (e : pt = 3) {v : Int32} (k : wp_X6_takesInDebts (fun r M2 => zb r ∧ Post r M2) M v) : wp_X6_takes Post M v := by
  unfold wp_X6_takes
  rw [h.1, e]
  exact ⟨fun z => absurd z (by decide), fun z => absurd z (by decide), fun z => absurd z (by decide), fun _ _ _ => k⟩
theorem z1 : zb 1 := Or.inr rfl
theorem z0 : zb 0 := Or.inl rfl
theorem eq_lit {y : Nat} (hx : x < 1000) (hy : y < 1000) : nI x = nI y ↔ x = y := nI_eq (by omega) (by omega)
theorem c_00 (h : CS M 0 0 fi R dr pe de) (hx : x < 127) (k1 : 50 ≤ x ∧ x ≤ 54 → ∀ M', FPg M M' → CS M' 0 1 fi (x - 48) dr pe de → Post 1 M') (k0 : ¬ (50 ≤ x ∧ x ≤ 54) → ∀ M', FPg M M' → Post 0 M') : wp_X6_takes Post M (nI x) := by
  refine tk_0 h rfl ?_
  unfold wp_X6_takesInRooms
  rw [h.2.1]
  refine ⟨fun z => absurd (by decide) z, fun _ M3 e3 => ?_⟩
  by_cases hc : 50 ≤ x ∧ x ≤ 54
  · have e : nI x - 48 = nI (x - 48) := pk_sub (b := 48) (by omega)
    rw [e] at e3
    subst e3
    rw [wr_s]
    exact ⟨fun z => absurd z (nI_nlt (a := x - 48) (b := 2) (by omega) (by omega)), fun _ => ⟨fun z => absurd z (nI_nlt (a := 6) (b := x - 48) (by omega) (by omega)), fun _ => c_tif (h.w7 (x - 48)) z1 (fun M' f' c' => ⟨z1, z1, k1 hc M' ((FPg.w M _ (by omega)).tr f') c'⟩)⟩⟩
  · have F : FPg M M3 := e3 ▸ FPg.w M _ (by omega)
    have no : wp_X6_takesIf (fun r4 M5 => zb r4 ∧ zb r4 ∧ Post r4 M5) M3 0 := c_tif0 z0 (fun M' f' => ⟨z0, z0, k0 hc M' (F.tr f')⟩)
    refine ⟨fun _ => no, fun z => ⟨fun _ => no, fun y => absurd ?_ hc⟩⟩
    rw [e3, wr_s, Int32.lt_iff_toInt_lt] at z y
    have t : (nI x - 48).toInt = (x : Int) - 48 := pk_sub_toInt (b := 48) (by omega) (by omega)
    rw [t] at z y
    have t2 : (2 : Int32).toInt = 2 := by decide
    have t6 : (6 : Int32).toInt = 6 := by decide
    rw [t2] at z
    rw [t6] at y
    omega
theorem c_01 (h : CS M 0 1 fi R dr pe de) (hx : x < 127) (k1 : x = 59 → ∀ M', FPg M M' → CS M' 1 0 fi R dr pe de → Post 1 M') (k0 : ¬ x = 59 → ∀ M', FPg M M' → Post 0 M') : wp_X6_takes Post M (nI x) := by
  refine tk_0 h rfl ?_
  unfold wp_X6_takesInRooms
  have e : nI x = 59 ↔ x = 59 := eq_lit (y := 59) (by omega) (by omega)
  rw [h.2.1, e]
  exact ⟨fun _ => ⟨fun z => ⟨z0, k0 z M (FPg.rf M)⟩, fun z => c_open (x := 1) h (fun M' f' c' => ⟨fun y => absurd y (by decide), fun _ => ⟨z1, k1 z M' f' c'⟩⟩)⟩, fun z => absurd z (by decide)⟩
theorem c_10 (h : CS M 1 0 fi R dr pe de) (hx : x < 127) (hR : R < 900) (k1 : 48 ≤ x ∧ x < 48 + R → ∀ M', FPg M M' → CS M' 1 1 (x - 48) R dr pe de → Post 1 M') (k0 : ¬ (48 ≤ x ∧ x < 48 + R) → ∀ M', FPg M M' → Post 0 M') : wp_X6_takes Post M (nI x) := by
  refine tk_1 h rfl ?_
  unfold wp_X6_takesInDoors
  rw [h.2.1, h.2.2.2.1]
  exact ⟨fun _ => c_first h (by omega) hR (fun z M' f' c' => ⟨z1, z1, k1 z M' f' c'⟩) (fun z M' f' => ⟨z0, z0, k0 z M' f'⟩), fun z => absurd z (by decide), fun z => absurd z (by decide), fun z => absurd (by decide) z⟩
theorem c_11 (h : CS M 1 1 fi R dr pe de) (hx : x < 127) (hR : R < 900) (hf : fi < 900) (k1 : 48 ≤ x ∧ x < 48 + R ∧ x - 48 ≠ fi → ∀ M', FPg M M' → CS M' 1 2 fi R dr pe de → Post 1 M') (k0 : ¬ (48 ≤ x ∧ x < 48 + R ∧ x - 48 ≠ fi) → ∀ M', FPg M M' → Post 0 M') : wp_X6_takes Post M (nI x) := by
  refine tk_1 h rfl ?_
  unfold wp_X6_takesInDoors
  rw [h.2.1, h.2.2.2.1]
  exact ⟨fun z => absurd z (by decide), fun _ => c_other h (by omega) hR hf (fun z M' f' c' => ⟨z1, z1, k1 z M' f' c'⟩) (fun z M' f' => ⟨z0, z0, k0 z M' f'⟩), fun z => absurd z (by decide), fun _ z => absurd (by decide) z⟩
theorem c_12 (h : CS M 1 2 fi R dr pe de) (hx : x < 127) (k1 : x = 111 ∨ x = 97 ∨ x = 98 → ∀ M', FPg M M' → CS M' 1 3 fi R (dr + 1) pe de → Post 1 M') (k0 : ¬ (x = 111 ∨ x = 97 ∨ x = 98) → ∀ M', FPg M M' → Post 0 M') : wp_X6_takes Post M (nI x) := by
  refine tk_1 h rfl ?_
  unfold wp_X6_takesInDoors
  rw [h.2.1, h.2.2.2.2.1]
  refine ⟨fun z => absurd z (by decide), fun z => absurd z (by decide), fun _ M5 e5 => ?_, fun _ _ z => absurd (by decide) z⟩
  rw [nI_1] at e5
  subst e5
  have F := FPg.w M (k := 8) (nI (dr + 1)) (by omega)
  exact c_ix (h.w8 (dr + 1)) (k := 0) (by omega) hx (fun z M' f' c' => ⟨z1, k1 (ix_lock.mp z) M' (F.tr f') c'⟩) (fun z M' f' => ⟨z0, k0 (fun y => z (ix_lock.mpr y)) M' (F.tr f')⟩)
theorem c_13 (h : CS M 1 3 fi R dr pe de) (hx : x < 127) (hd : dr < 900) (k1 : x = 44 → dr < 6 → ∀ M', FPg M M' → CS M' 1 0 fi R dr pe de → Post 1 M') (k2 : x = 59 → ∀ M', FPg M M' → CS M' 2 0 fi R dr pe de → Post 1 M') (k0 : ¬ (x = 44 ∧ dr < 6 ∨ x = 59) → ∀ M', FPg M M' → Post 0 M') : wp_X6_takes Post M (nI x) := by
  refine tk_1 h rfl ?_
  unfold wp_X6_takesInDoors
  have e : nI x = 59 ↔ x = 59 := eq_lit (y := 59) (by omega) (by omega)
  have e2 : nI x = 44 ↔ x = 44 := eq_lit (y := 44) (by omega) (by omega)
  have e3 : (6 : Int32) ≤ nI dr ↔ 6 ≤ dr := nI_leI (a := 6) (by omega) (by omega)
  rw [h.2.1, h.2.2.2.2.1, e, e2, e3]
  exact ⟨fun z => absurd z (by decide), fun z => absurd z (by decide), fun z => absurd z (by decide), fun _ _ _ => ⟨fun z => ⟨fun y => ⟨z0, k0 (by omega) M (FPg.rf M)⟩, fun y => c_open (x := 2) h (fun M' f' c' => ⟨fun w => absurd w (by decide), fun _ => ⟨z1, k2 y M' f' c'⟩⟩)⟩, fun z => ⟨fun y => ⟨z0, k0 (by omega) M (FPg.rf M)⟩, fun y => c_open (x := 1) h (fun M' f' c' => ⟨fun w => absurd w (by decide), fun _ => ⟨z1, k1 z (by omega) M' f' c'⟩⟩)⟩⟩⟩
theorem c_20 (h : CS M 2 0 fi R dr pe de) (hx : x < 127) (k1 : kdOK x → ∀ M', FPg M M' → CS M' 2 1 fi R dr pe de → Post 1 M') (k0 : ¬ kdOK x → ∀ M', FPg M M' → Post 0 M') : wp_X6_takes Post M (nI x) := by
  refine tk_2 h rfl ?_
  unfold wp_X6_takesInPeople
  rw [h.2.1]
  exact ⟨fun _ => c_ix h (k := 1) (by omega) hx (fun z M' f' c' => ⟨z1, k1 (ix_kind.mp z) M' f' c'⟩) (fun z M' f' => ⟨z0, k0 (fun y => z (ix_kind.mpr y)) M' f'⟩), fun z => absurd z (by decide), fun z => absurd z (by decide), fun z => absurd (by decide) z⟩
theorem c_21 (h : CS M 2 1 fi R dr pe de) (hx : x < 127) (k1 : 48 ≤ x ∧ x < 48 + 10 → ∀ M', FPg M M' → CS M' 2 2 fi R dr pe de → Post 1 M') (k0 : ¬ (48 ≤ x ∧ x < 48 + 10) → ∀ M', FPg M M' → Post 0 M') : wp_X6_takes Post M (nI x) := by
  refine tk_2 h rfl ?_
  unfold wp_X6_takesInPeople
  rw [h.2.1]
  exact ⟨fun z => absurd z (by decide), fun _ => c_dgt (b := 10) h (by omega) (by omega) (fun z M' f' c' => ⟨z1, k1 z M' f' c'⟩) (fun z M' f' => ⟨z0, k0 z M' f'⟩), fun z => absurd z (by decide), fun _ z => absurd (by decide) z⟩
theorem c_22 (h : CS M 2 2 fi R dr pe de) (hx : x < 127) (hR : R < 900) (k1 : 48 ≤ x ∧ x < 48 + R → ∀ M', FPg M M' → CS M' 2 3 fi R dr (pe + 1) de → Post 1 M') (k0 : ¬ (48 ≤ x ∧ x < 48 + R) → ∀ M', FPg M M' → Post 0 M') : wp_X6_takes Post M (nI x) := by
  refine tk_2 h rfl ?_
  unfold wp_X6_takesInPeople
  rw [h.2.1, h.2.2.2.2.2.1]
  refine ⟨fun z => absurd z (by decide), fun z => absurd z (by decide), fun _ M5 e5 => ?_, fun _ _ z => absurd (by decide) z⟩
  rw [nI_1] at e5
  subst e5
  have F := FPg.w M (k := 9) (nI (pe + 1)) (by omega)
  rw [(h.w9 (pe + 1)).2.2.2.1]
  exact c_dgt (h.w9 (pe + 1)) (by omega) hR (fun z M' f' c' => ⟨z1, k1 z M' (F.tr f') c'⟩) (fun z M' f' => ⟨z0, k0 z M' (F.tr f')⟩)
theorem c_23 (h : CS M 2 3 fi R dr pe de) (hx : x < 127) (hd : pe < 900) (k1 : x = 44 → pe < 4 → ∀ M', FPg M M' → CS M' 2 0 fi R dr pe de → Post 1 M') (k2 : x = 59 → 2 ≤ pe → ∀ M', FPg M M' → CS M' 3 0 fi R dr pe de → Post 1 M') (k0 : ¬ (x = 44 ∧ pe < 4 ∨ x = 59 ∧ 2 ≤ pe) → ∀ M', FPg M M' → Post 0 M') : wp_X6_takes Post M (nI x) := by
  refine tk_2 h rfl ?_
  unfold wp_X6_takesInPeople
  have e : nI x = 59 ↔ x = 59 := eq_lit (y := 59) (by omega) (by omega)
  have e2 : nI x = 44 ↔ x = 44 := eq_lit (y := 44) (by omega) (by omega)
  have e3 : (4 : Int32) ≤ nI pe ↔ 4 ≤ pe := nI_leI (a := 4) (by omega) (by omega)
  have e4 : nI pe < (2 : Int32) ↔ pe < 2 := nI_ltI (b := 2) (by omega) (by omega)
  rw [h.2.1, h.2.2.2.2.2.1, e, e2, e3, e4]
  exact ⟨fun z => absurd z (by decide), fun z => absurd z (by decide), fun z => absurd z (by decide), fun _ _ _ => ⟨fun z => ⟨fun y => ⟨z0, k0 (by omega) M (FPg.rf M)⟩, fun y => ⟨fun w => ⟨z0, k0 (by omega) M (FPg.rf M)⟩, fun w => c_open (x := 3) h (fun M' f' c' => ⟨fun w => absurd w (by decide), fun _ => ⟨z1, k2 y (by omega) M' f' c'⟩⟩)⟩⟩, fun z => ⟨fun y => ⟨z0, k0 (by omega) M (FPg.rf M)⟩, fun y => c_open (x := 2) h (fun M' f' c' => ⟨fun w => absurd w (by decide), fun _ => ⟨z1, k1 z (by omega) M' f' c'⟩⟩)⟩⟩⟩
theorem c_30 (h : CS M 3 0 fi R dr pe de) (hx : x < 127) (hR : pe < 900) (k1 : 48 ≤ x ∧ x < 48 + pe → ∀ M', FPg M M' → CS M' 3 1 (x - 48) R dr pe de → Post 1 M') (k0 : ¬ (48 ≤ x ∧ x < 48 + pe) → ∀ M', FPg M M' → Post 0 M') : wp_X6_takes Post M (nI x) := by
  refine tk_3 h rfl ?_
  unfold wp_X6_takesInDebts
  rw [h.2.1, h.2.2.2.2.2.1]
  exact ⟨fun _ => c_first h (by omega) hR (fun z M' f' c' => ⟨z1, z1, k1 z M' f' c'⟩) (fun z M' f' => ⟨z0, z0, k0 z M' f'⟩), fun z => absurd z (by decide), fun z => absurd z (by decide), fun z => absurd z (by decide), fun z => absurd (by decide) z⟩
theorem c_31 (h : CS M 3 1 fi R dr pe de) (hx : x < 127) (hR : pe < 900) (hf : fi < 900) (k1 : 48 ≤ x ∧ x < 48 + pe ∧ x - 48 ≠ fi → ∀ M', FPg M M' → CS M' 3 2 fi R dr pe de → Post 1 M') (k0 : ¬ (48 ≤ x ∧ x < 48 + pe ∧ x - 48 ≠ fi) → ∀ M', FPg M M' → Post 0 M') : wp_X6_takes Post M (nI x) := by
  refine tk_3 h rfl ?_
  unfold wp_X6_takesInDebts
  rw [h.2.1, h.2.2.2.2.2.1]
  exact ⟨fun z => absurd z (by decide), fun _ => c_other h (by omega) hR hf (fun z M' f' c' => ⟨z1, z1, k1 z M' f' c'⟩) (fun z M' f' => ⟨z0, z0, k0 z M' f'⟩), fun z => absurd z (by decide), fun z => absurd z (by decide), fun _ z => absurd (by decide) z⟩
theorem c_32 (h : CS M 3 2 fi R dr pe de) (hx : x < 127) (hR : R < 900) (k1 : 48 ≤ x ∧ x < 48 + R → ∀ M', FPg M M' → CS M' 3 3 fi R dr pe de → Post 1 M') (k0 : ¬ (48 ≤ x ∧ x < 48 + R) → ∀ M', FPg M M' → Post 0 M') : wp_X6_takes Post M (nI x) := by
  refine tk_3 h rfl ?_
  unfold wp_X6_takesInDebts
  rw [h.2.1, h.2.2.2.1]
  exact ⟨fun z => absurd z (by decide), fun z => absurd z (by decide), fun _ => c_dgt h (by omega) hR (fun z M' f' c' => ⟨z1, k1 z M' f' c'⟩) (fun z M' f' => ⟨z0, k0 z M' f'⟩), fun z => absurd z (by decide), fun _ _ z => absurd (by decide) z⟩
theorem c_33 (h : CS M 3 3 fi R dr pe de) (hx : x < 127) (k1 : 49 ≤ x ∧ x < 58 → ∀ M', FPg M M' → CS M' 3 4 fi R dr pe (de + 1) → Post 1 M') (k0 : ¬ (49 ≤ x ∧ x < 58) → ∀ M', FPg M M' → Post 0 M') : wp_X6_takes Post M (nI x) := by
  refine tk_3 h rfl ?_
  unfold wp_X6_takesInDebts
  have e : nI x = 48 ↔ x = 48 := eq_lit (y := 48) (by omega) (by omega)
  rw [h.2.1, h.2.2.2.2.2.2, e]
  refine ⟨fun z => absurd z (by decide), fun z => absurd z (by decide), fun z => absurd z (by decide), fun _ M5 e5 => ?_, fun _ _ _ z => absurd (by decide) z⟩
  rw [nI_1] at e5
  subst e5
  have F := FPg.w M (k := 10) (nI (de + 1)) (by omega)
  refine ⟨fun z => c_tif0 z0 (fun M' f' => ⟨z0, z0, k0 (by omega) M' (F.tr f')⟩), fun z => ?_⟩
  refine c_dig (b := 10) (by omega) (by omega) (fun y => ⟨fun w => absurd w (by decide), fun _ => c_tif (h.w10 (de + 1)) z1 (fun M' f' c' => ⟨z1, z1, k1 (by omega) M' (F.tr f') c'⟩)⟩) (fun y => ⟨fun _ => c_tif0 z0 (fun M' f' => ⟨z0, z0, k0 (by omega) M' (F.tr f')⟩), fun w => absurd rfl w⟩)
theorem c_34 (h : CS M 3 4 fi R dr pe de) (hx : x < 127) (hd : de < 900) (k1 : x = 44 → de < 4 → ∀ M', FPg M M' → CS M' 3 0 fi R dr pe de → Post 1 M') (k0 : ¬ (x = 44 ∧ de < 4) → ∀ M', FPg M M' → Post 0 M') : wp_X6_takes Post M (nI x) := by
  refine tk_3 h rfl ?_
  unfold wp_X6_takesInDebts
  have e2 : nI x = 44 ↔ x = 44 := eq_lit (y := 44) (by omega) (by omega)
  have e3 : (4 : Int32) ≤ nI de ↔ 4 ≤ de := nI_leI (a := 4) (by omega) (by omega)
  rw [h.2.1, h.2.2.2.2.2.2, e2, e3]
  exact ⟨fun z => absurd z (by decide), fun z => absurd z (by decide), fun z => absurd z (by decide), fun z => absurd z (by decide), fun _ _ _ _ => ⟨fun z => ⟨z0, k0 (by omega) M (FPg.rf M)⟩, fun z => ⟨fun y => ⟨z0, k0 (by omega) M (FPg.rf M)⟩, fun y => c_open (x := 3) h (fun M' f' c' => ⟨fun w => absurd w (by decide), fun _ => ⟨z1, k1 z (by omega) M' f' c'⟩⟩)⟩⟩⟩
end CTk
