/-! ===== the start, and the law ===== -/
theorem m0_n (q j : Nat) (h : q ≠ 29) : rd M0 q j = 0 := by
  show (if q = 29 ∧ j = 34 then (-1 : Int32) else 0) = 0
  rw [if_neg (fun z => h z.1)]
theorem m0_k (q j : Nat) (h : j ≠ 34) : rd M0 q j = 0 := by
  show (if q = 29 ∧ j = 34 then (-1 : Int32) else 0) = 0
  rw [if_neg (fun z => h z.2)]
theorem m0_e {q q' : Nat} (h : q ≠ 29) (h' : q' ≠ 29) : EQ M0 q q' := fun j => by rw [m0_n q j h, m0_n q' j h']
theorem m0_inv : Inv 0 M0 := by
  have v0 : ∀ {a : Prop} {j : Nat}, j < 0 → a := fun h => absurd h (Nat.not_lt_zero _)
  refine ⟨by omega, 0, 0, 0, 0, ?_, ⟨fun k hk => v0 hk, fun p hp => ⟨0, by omega, m0_n _ _ (by omega)⟩, fun k hk => v0 hk⟩, ⟨m0_e (by omega) (by omega), m0_e (by omega) (by omega), m0_e (by omega) (by omega), fun p hp => by rw [m0_n _ _ (by omega), m0_n _ _ (by omega)], m0_e (by omega) (by omega), m0_e (by omega) (by omega), m0_e (by omega) (by omega)⟩, ⟨m0_e (by omega) (by omega), m0_e (by omega) (by omega), m0_e (by omega) (by omega), m0_e (by omega) (by omega), m0_e (by omega) (by omega), ?_, ?_, fun j hj => ?_⟩, ⟨fun k hk => v0 hk, fun hk => v0 hk, fun k hk => v0 hk, fun k _ => Or.inl (m0_n _ _ (by omega)), ⟨0, by omega, m0_n _ _ (by omega), fun j hj => v0 hj⟩, fun j _ => Or.inl (m0_n _ _ (by omega)), ⟨0, by omega, m0_n _ _ (by omega)⟩⟩, ⟨m0_e (by omega) (by omega), m0_e (by omega) (by omega), m0_e (by omega) (by omega), m0_e (by omega) (by omega), m0_e (by omega) (by omega), ?_, ?_, fun j hj => ?_⟩, fun z => ?_, ⟨0, by omega, m0_n _ _ (by omega), m0_k _ _ (by omega), m0_e (by omega) (by omega), fun j hj => v0 hj⟩, ⟨0, by omega, m0_n _ _ (by omega), m0_k _ _ (by omega), Or.inr ⟨m0_n _ _ (by omega), Or.inl rfl⟩⟩⟩
  · exact ⟨m0_n _ _ (by omega), m0_n _ _ (by omega), m0_n _ _ (by omega), m0_n _ _ (by omega), m0_k _ _ (by omega), m0_k _ _ (by omega), m0_k _ _ (by omega), m0_k _ _ (by omega), by omega, by omega, by omega, by omega, Or.inl ⟨rfl, rfl, rfl, rfl⟩⟩
  · rw [m0_n _ _ (by omega), m0_k _ _ (by omega)]
  · rw [m0_n _ _ (by omega), m0_k _ _ (by omega)]
  · rw [m0_n _ _ (by omega), m0_n _ _ (by omega), m0_n _ _ (by omega), m0_n _ _ (by omega)]
    exact ⟨rfl, rfl⟩
  · rw [m0_n _ _ (by omega), m0_k _ _ (by omega)]
  · rw [m0_n _ _ (by omega), m0_k _ _ (by omega)]
  · rw [m0_n _ _ (by omega), m0_n _ _ (by omega), m0_n _ _ (by omega), m0_n _ _ (by omega)]
    exact ⟨rfl, rfl⟩
  · rw [m0_n _ _ (by omega)] at z
    exact absurd z (by decide)
theorem ob_count' {n : Nat} {M : Mem} (hI : Inv n M) (v : Int32) : OB (fun P M => wp_X11_count P M v) (fun P M => wp_X12_count P M v) M := (ob_count hI v).mdl (fun _ _ _ h => h)
theorem wcg {W : (Int32 → Mem → Prop) → Prop} {P Q : Int32 → Mem → Prop} (h : W P) (e : ∀ r M, P r M ↔ Q r M) : W Q := by
  have : P = Q := funext fun r => funext fun M => propext (e r M)
  rw [← this]
  exact h
theorem a2 {a b X : Prop} (ha : a) (hb : b) : (True ∧ X) ↔ (a ∧ b ∧ X) := ⟨fun h => ⟨ha, hb, h.2⟩, fun h => ⟨trivial, h.2.2⟩⟩
theorem a3 {a b c X : Prop} (ha : a) (hb : b) (hc : c) : (True ∧ X) ↔ (a ∧ b ∧ c ∧ X) := ⟨fun h => ⟨ha, hb, hc, h.2⟩, fun h => ⟨trivial, h.2.2.2⟩⟩
theorem a4 {a b c d X : Prop} (ha : a) (hb : b) (hc : c) (hd : d) : (True ∧ X) ↔ (a ∧ b ∧ c ∧ d ∧ X) := ⟨fun h => ⟨ha, hb, hc, hd, h.2⟩, fun h => ⟨trivial, h.2.2.2.2⟩⟩
theorem as0 {a b y X Y : Prop} (ha : a) (hb : b) (hy : y) : (True ∧ X) ↔ (a ∧ b ∧ (y → X) ∧ (¬ y → Y)) := ⟨fun h => ⟨ha, hb, fun _ => h.2, fun z => absurd hy z⟩, fun h => ⟨trivial, h.2.2.1 hy⟩⟩
theorem as1 {a b y X Y : Prop} (ha : a) (hb : b) (hy : ¬ y) : (True ∧ Y) ↔ (a ∧ b ∧ (y → X) ∧ (¬ y → Y)) := ⟨fun h => ⟨ha, hb, fun z => absurd z hy, fun _ => h.2⟩, fun h => ⟨trivial, h.2.2.2 hy⟩⟩
theorem law_step {L i : Nat} {ys : Nat → Int32} {P18 : Mem → Int32 → Prop} {M : Mem} (hL : L ≤ 320) (hi : 5 * i + 5 ≤ L) (hI : Inv i M) (hP : ∀ (M : Mem) (v3 : Int32), wp_L_law_b18 L ys P18 M v3 → P18 M v3) (ih : ∀ M', Inv (i + 1) M' → P18 M' (nI (5 * (i + 1)))) : P18 M (nI (5 * i)) := by
  have e5 : nI (5 * i) + 5 = nI (5 * (i + 1)) := nI_add (5 * i) 5
  have hH : ∀ M', Inv (i + 1) M' → wp_L_law_b850 L ys P18 M' (nI (5 * i)) := fun M' h x hx => by
    rw [hx, e5]
    exact ih M' h
  have hK : ∀ M', Inv i M' → wp_L_law_b850 L ys P18 M' (nI (5 * i)) := fun M' h => hH M' (h.up (by omega) (by omega))
  have q0 : vp_in (nI (5 * i)) L := vp_in_nI (by omega) (by omega)
  have q1 : vp_in (nI (5 * i) + 1) L := by rw [nI_1]; exact vp_in_nI (by omega) (by omega)
  have q2 : vp_in (nI (5 * i) + 2) L := by rw [po_p2]; exact vp_in_nI (by omega) (by omega)
  have q3 : vp_in (nI (5 * i) + 3) L := by rw [po_p3]; exact vp_in_nI (by omega) (by omega)
  have q4 : vp_in (nI (5 * i) + 4) L := by
    have e : nI (5 * i) + 4 = nI (5 * i + 4) := nI_add (5 * i) 4
    rw [e]
    exact vp_in_nI (by omega) (by omega)
  refine hP _ _ ⟨fun _ => trivial, fun _ => ⟨q0, ?_⟩⟩
  refine ⟨fun _ => ?_, fun _ => ?_, fun _ => ?_, fun _ => ?_, fun _ => ?_, fun _ => ?_, fun _ => ?_, fun _ => ?_, fun _ => ?_, fun _ => ?_, fun _ => ?_, fun _ => ?_, fun _ => ?_, fun _ => ?_, fun _ => ?_, fun _ => ?_, fun _ => ?_, fun _ => ?_, fun _ => ?_, fun _ => ?_, fun _ => ?_, fun _ => ?_, fun _ => ?_, fun _ => ?_, fun _ => ?_, fun _ _ _ _ _ _ _ _ _ _ _ _ _ _ _ _ _ _ _ _ _ _ _ _ _ => hK M hI⟩
  · exact ⟨q1, op_letter (K := fun M => wp_L_law_b850 L ys P18 M (nI (5 * i))) hI hK q1⟩
  · exact op_blank (K := fun M => wp_L_law_b850 L ys P18 M (nI (5 * i))) hI hK
  · exact op_fault (K := fun M => wp_L_law_b850 L ys P18 M (nI (5 * i))) hI hK
  · exact op_house (K := fun M => wp_L_law_b850 L ys P18 M (nI (5 * i))) hI (by omega) hH
  · exact ⟨q1, q2, wcg (W := fun P => wp_X11_person P M (ys (nI (5 * i) + 1).toNatClampNeg) (ys (nI (5 * i) + 2).toNatClampNeg)) ((ob_person' hI (ys (nI (5 * i) + 1).toNatClampNeg) (ys (nI (5 * i) + 2).toNatClampNeg)).op (K := fun M => wp_L_law_b850 L ys P18 M (nI (5 * i))) hI hK trivial) (fun _ _ => a2 q1 q2)⟩
  · exact ⟨q1, q2, wcg (W := fun P => wp_X11_as P M (ys (nI (5 * i) + 1).toNatClampNeg) (ys (nI (5 * i) + 2).toNatClampNeg)) ((ob_as hI (ys (nI (5 * i) + 1).toNatClampNeg) (ys (nI (5 * i) + 2).toNatClampNeg)).op (K := fun M => wp_L_law_b850 L ys P18 M (nI (5 * i))) hI hK trivial) (fun _ _ => a2 q1 q2)⟩
  · exact ⟨q1, q2, wcg (W := fun P => wp_X11_door P M (ys (nI (5 * i) + 1).toNatClampNeg) (ys (nI (5 * i) + 2).toNatClampNeg)) (op_door (K := fun M => wp_L_law_b850 L ys P18 M (nI (5 * i))) hI hK trivial) (fun _ _ => a2 q1 q2)⟩
  · exact ⟨q1, q2, wcg (W := fun P => wp_X11_debt P M (ys (nI (5 * i) + 1).toNatClampNeg) (ys (nI (5 * i) + 2).toNatClampNeg)) ((ob_debt' hI (ys (nI (5 * i) + 1).toNatClampNeg) (ys (nI (5 * i) + 2).toNatClampNeg)).op (K := fun M => wp_L_law_b850 L ys P18 M (nI (5 * i))) hI hK trivial) (fun _ _ => a2 q1 q2)⟩
  · exact ⟨q1, q2, wcg (W := fun P => wp_X11_go P M (ys (nI (5 * i) + 1).toNatClampNeg) (ys (nI (5 * i) + 2).toNatClampNeg)) (op_go (K := fun M => wp_L_law_b850 L ys P18 M (nI (5 * i))) hI hK trivial) (fun _ _ => a2 q1 q2)⟩
  · exact ⟨q1, q2, wcg (W := fun P => wp_X11_give P M (ys (nI (5 * i) + 1).toNatClampNeg) (ys (nI (5 * i) + 2).toNatClampNeg)) (op_give (K := fun M => wp_L_law_b850 L ys P18 M (nI (5 * i))) hI hK trivial) (fun _ _ => a2 q1 q2)⟩
  · exact ⟨q1, op_pay (K := fun M => wp_L_law_b850 L ys P18 M (nI (5 * i))) hI hK q1⟩
  · exact ⟨q1, q2, wcg (W := fun P => wp_X11_earn P M (ys (nI (5 * i) + 1).toNatClampNeg) (ys (nI (5 * i) + 2).toNatClampNeg)) (op_earn (K := fun M => wp_L_law_b850 L ys P18 M (nI (5 * i))) hI hK trivial) (fun _ _ => a2 q1 q2)⟩
  · exact ⟨q1, q2, wcg (W := fun P => wp_X11_owe P M (ys (nI (5 * i) + 1).toNatClampNeg) (ys (nI (5 * i) + 2).toNatClampNeg)) (op_owe (K := fun M => wp_L_law_b850 L ys P18 M (nI (5 * i))) hI hK trivial) (fun _ _ => a2 q1 q2)⟩
  · exact ⟨q1, q2, q3, wcg (W := fun P => wp_X11_way P M (ys (nI (5 * i) + 1).toNatClampNeg) (ys (nI (5 * i) + 2).toNatClampNeg) (ys (nI (5 * i) + 3).toNatClampNeg)) ((ob_way' hI (ys (nI (5 * i) + 1).toNatClampNeg) (ys (nI (5 * i) + 2).toNatClampNeg) (ys (nI (5 * i) + 3).toNatClampNeg)).op (K := fun M => wp_L_law_b850 L ys P18 M (nI (5 * i))) hI hK trivial) (fun _ _ => a3 q1 q2 q3)⟩
  · exact ⟨q1, q2, q3, wcg (W := fun P => wp_X11_night P M (ys (nI (5 * i) + 1).toNatClampNeg) (ys (nI (5 * i) + 2).toNatClampNeg) (ys (nI (5 * i) + 3).toNatClampNeg)) ((ob_night' hI (ys (nI (5 * i) + 1).toNatClampNeg) (ys (nI (5 * i) + 2).toNatClampNeg) (ys (nI (5 * i) + 3).toNatClampNeg)).op (K := fun M => wp_L_law_b850 L ys P18 M (nI (5 * i))) hI hK trivial) (fun _ _ => a3 q1 q2 q3)⟩
  · exact ⟨q1, q2, wcg (W := fun P => wp_X11_cancel P M (ys (nI (5 * i) + 1).toNatClampNeg) (ys (nI (5 * i) + 2).toNatClampNeg)) ((ob_cancel' hI (ys (nI (5 * i) + 1).toNatClampNeg) (ys (nI (5 * i) + 2).toNatClampNeg)).op (K := fun M => wp_L_law_b850 L ys P18 M (nI (5 * i))) hI hK trivial) (fun _ _ => a2 q1 q2)⟩
  · exact (ob_sound' hI).op0 (K := fun M => wp_L_law_b850 L ys P18 M (nI (5 * i))) hI hK
  · exact ⟨q1, q2, q3, q4, wcg (W := fun P => wp_X11_met P M (ys (nI (5 * i) + 1).toNatClampNeg) (ys (nI (5 * i) + 2).toNatClampNeg) (ys (nI (5 * i) + 3).toNatClampNeg) (ys (nI (5 * i) + 4).toNatClampNeg)) ((ob_met' hI (ys (nI (5 * i) + 1).toNatClampNeg) (ys (nI (5 * i) + 2).toNatClampNeg) (ys (nI (5 * i) + 3).toNatClampNeg) (ys (nI (5 * i) + 4).toNatClampNeg)).op (K := fun M => wp_L_law_b850 L ys P18 M (nI (5 * i))) hI hK trivial) (fun _ _ => a4 q1 q2 q3 q4)⟩
  · exact ⟨q1, q2, fun hy => wcg (W := fun P => wp_X11_see P M (ys (nI (5 * i) + 1).toNatClampNeg) 0) (op_see (K := fun M => wp_L_law_b850 L ys P18 M (nI (5 * i))) hI hK z0 trivial) (fun _ _ => as0 q1 q2 hy), fun hy => wcg (W := fun P => wp_X11_see P M (ys (nI (5 * i) + 1).toNatClampNeg) 1) (op_see (K := fun M => wp_L_law_b850 L ys P18 M (nI (5 * i))) hI hK z1 trivial) (fun _ _ => as1 q1 q2 hy)⟩
  · exact op_forget (K := fun M => wp_L_law_b850 L ys P18 M (nI (5 * i))) hI hK
  · exact ⟨q1, q2, q3, wcg (W := fun P => wp_X11_winters P M (ys (nI (5 * i) + 1).toNatClampNeg) (ys (nI (5 * i) + 2).toNatClampNeg) (ys (nI (5 * i) + 3).toNatClampNeg)) ((ob_winters hI (ys (nI (5 * i) + 1).toNatClampNeg) (ys (nI (5 * i) + 2).toNatClampNeg) (ys (nI (5 * i) + 3).toNatClampNeg)).op (K := fun M => wp_L_law_b850 L ys P18 M (nI (5 * i))) hI hK trivial) (fun _ _ => a3 q1 q2 q3)⟩
  · exact op_image (K := fun M => wp_L_law_b850 L ys P18 M (nI (5 * i))) hI hK
  · exact op_restore (K := fun M => wp_L_law_b850 L ys P18 M (nI (5 * i))) hI hK
  · exact ⟨q1, (ob_count' hI (ys (nI (5 * i) + 1).toNatClampNeg)).op (K := fun M => wp_L_law_b850 L ys P18 M (nI (5 * i))) hI hK q1⟩
  · exact op_digest (K := fun M => wp_L_law_b850 L ys P18 M (nI (5 * i))) hI hK
theorem law_ok (L : Nat) (ys : Nat → Int32) (hL : L ≤ 320) : wp_L_law L ys M0 := by
  intro P18 hP
  have eL : (Int32.ofNat L - 5).toInt = (L : Int) - 5 := pk_sub_toInt (a := L) (b := 5) (by omega) (by omega)
  have key : ∀ m i M, i + m = 64 → Inv i M → P18 M (nI (5 * i)) := by
    intro m
    induction m with
    | zero =>
      intro i M hi hI
      refine hP _ _ ⟨fun _ => trivial, fun z => absurd ?_ z⟩
      rw [Int32.lt_iff_toInt_lt, eL, nI_toInt (by omega)]
      omega
    | succ m ihm =>
      intro i M hi hI
      by_cases h5 : 5 * i + 5 ≤ L
      · exact law_step hL h5 hI hP (fun M' h => ihm (i + 1) M' (by omega) h)
      · refine hP _ _ ⟨fun _ => trivial, fun z => absurd ?_ z⟩
        rw [Int32.lt_iff_toInt_lt, eL, nI_toInt (by omega)]
        omega
  exact key 64 0 M0 (by omega) m0_inv
