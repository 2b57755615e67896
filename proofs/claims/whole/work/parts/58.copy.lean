/-! ===== loops that copy ===== -/
theorem for_up {S : Type} {P : S → Int32 → Prop} {n : Nat} (I : Nat → S → Prop) (hexit : ∀ s, I n s → P s (nI n)) (hstep : ∀ i s, i < n → I i s → (∀ s', I (i + 1) s' → P s' (nI (i + 1))) → P s (nI i)) : ∀ i, i ≤ n → ∀ s, I i s → P s (nI i) := by
  have key : ∀ k i, i + k = n → ∀ s, I i s → P s (nI i) := by
    intro k
    induction k with
    | zero =>
      intro i hi s hs
      have : i = n := by omega
      subst this
      exact hexit s hs
    | succ k ih =>
      intro i hi s hs
      exact hstep i s (by omega) hs (fun s' hs' => ih (i + 1) (by omega) s' hs')
  exact fun i hi s hs => key (n - i) i (by omega) s hs
def cp (M M' : Mem) (q q1 i : Nat) : Prop := ∀ j, rd M' q j = if j < i then rd M q1 j else rd M q j
theorem cp_step {M M' : Mem} {q q1 i : Nat} {v : Int32} (h : cp M M' q q1 i) (hv : v = rd M q1 i) (j : Nat) : (if j = i then v else rd M' q j) = if j < i + 1 then rd M q1 j else rd M q j := by
  rw [h j]
  by_cases e : j = i
  · subst e
    rw [if_pos rfl, if_pos (by omega), hv]
  · rw [if_neg e]
    by_cases e2 : j < i
    · rw [if_pos e2, if_pos (by omega)]
    · rw [if_neg e2, if_neg (by omega)]
theorem wr2 (M : Mem) (q k : Nat) (v : Int32) : (wr M q k v).2 = M.2 := rfl
theorem le_n {i n : Nat} (hn : n < 1000) (hi : i < n) : ¬ nI n ≤ nI i := nI_ge hi (by omega)
/-- the model's copy of a row -/
theorem sp_copy {Post : Mem → Prop} {M : Mem} {q0 q1 n : Nat} (hq : q0 ≠ q1) (hn : n < 1000) (h : ∀ M', (∀ q, q ≠ q1 → ∀ j, rd M' q j = rd M q j) → cp M M' q1 q0 n → M'.2 = M.2 → Post M') : wp_X12_copy Post M q0 n q1 n := by
  intro P2 hP
  refine for_up (P := P2) (n := n) (fun i M' => (∀ q, q ≠ q1 → ∀ j, rd M' q j = rd M q j) ∧ cp M M' q1 q0 i ∧ M'.2 = M.2) (fun M' hI => hP _ _ ?_) (fun i M' hi hI ih => hP _ _ ?_) 0 (Nat.zero_le _) M ⟨fun _ _ _ => rfl, fun j => by rw [if_neg (by omega)], rfl⟩
  · exact ⟨fun _ => h M' hI.1 hI.2.1 hI.2.2, fun z => absurd (Int32.le_refl _) z⟩
  · have e1 := cl4 (p := i) (by omega)
    refine ⟨fun z => absurd z (le_n hn hi), fun _ => ⟨vp_in_nI hi (by omega), vp_in_nI hi (by omega), ?_⟩⟩
    rintro M1 rfl x rfl
    rw [nI_1]
    refine ih _ ⟨fun q hq' j => ?_, fun j => ?_, hI.2.2⟩
    · rw [wr_n hq']; exact hI.1 q hq' j
    · rw [wr_q, e1]
      exact cp_step hI.2.1 (hI.1 q0 hq i) j
theorem nar_zb {x : Int32} (h : zb x) : vp_nar .boolean x = x := by rcases h with rfl | rfl <;> decide
/-- all that an Affairs takes over -/
def TK (M M' : Mem) (o o1 : Nat) : Prop := (∀ q, ¬ (o ≤ q ∧ q ≤ o + 7) → ∀ j, rd M' q j = rd M q j) ∧ cp M M' (o + 1) (o1 + 1) 4 ∧ cp M M' (o + 2) (o1 + 2) 4 ∧ cp M M' (o + 3) (o1 + 3) 2 ∧ cp M M' (o + 4) (o1 + 4) 4 ∧ cp M M' (o + 5) (o1 + 5) 4 ∧ cp M M' (o + 6) (o1 + 6) 6 ∧ cp M M' (o + 7) (o1 + 7) 6 ∧ rd M' o 8 = rd M o1 8 ∧ rd M' o 9 = rd M o1 9 ∧ M'.2 = M.2
theorem sp_takeOver {Post : Mem → Prop} {M : Mem} {o o1 : Nat} (ho : o + 8 ≤ o1 ∨ o1 + 8 ≤ o) (hz5 : ∀ j, j < 4 → zb (rd M (o1 + 5) j)) (hz7 : ∀ j, j < 6 → zb (rd M (o1 + 7) j)) (h : ∀ M', TK M M' o o1 → Post M') : wp_X0_takeOver Post M o o1 := by
  intro P2 P39 P64 P101 h2 h39 h64 h101
  have l4 : ∀ M1 : Mem, (∀ q, q ≠ o + 1 → q ≠ o + 2 → q ≠ o + 3 → q ≠ o + 4 → q ≠ o + 5 → ∀ j, rd M1 q j = rd M q j) → cp M M1 (o + 1) (o1 + 1) 4 → cp M M1 (o + 2) (o1 + 2) 4 → cp M M1 (o + 3) (o1 + 3) 2 → cp M M1 (o + 4) (o1 + 4) 4 → cp M M1 (o + 5) (o1 + 5) 4 → M1.2 = M.2 → P101 M1 0 := by
    intro M1 a1 a2 a3 a4 a5 a6 a7
    refine for_up (P := P101) (n := 6) (fun i M' => (∀ q, q ≠ o + 6 → q ≠ o + 7 → ∀ j, rd M' q j = rd M1 q j) ∧ cp M M' (o + 6) (o1 + 6) i ∧ cp M M' (o + 7) (o1 + 7) i ∧ M'.2 = M.2) (fun M' hI => h101 _ _ ?_) (fun i M' hi hI ih => h101 _ _ ?_) 0 (Nat.zero_le _) M1 ⟨fun _ _ _ _ => rfl, fun j => by rw [if_neg (by omega), a1 _ (by omega) (by omega) (by omega) (by omega) (by omega)], fun j => by rw [if_neg (by omega), a1 _ (by omega) (by omega) (by omega) (by omega) (by omega)], a7⟩
    · obtain ⟨b1, b2, b3, b4⟩ := hI
      refine ⟨fun _ => ?_, fun z => absurd (Int32.le_refl _) z⟩
      rintro M9 rfl M10 rfl
      refine h _ ⟨fun q hq j => ?_, fun j => ?_, fun j => ?_, fun j => ?_, fun j => ?_, fun j => ?_, fun j => ?_, fun j => ?_, ?_, ?_, b4⟩
      · rw [wr_n (by omega), wr_n (by omega), b1 q (by omega) (by omega), a1 q (by omega) (by omega) (by omega) (by omega) (by omega)]
      · rw [wr_n (by omega), wr_n (by omega), b1 _ (by omega) (by omega)]; exact a2 j
      · rw [wr_n (by omega), wr_n (by omega), b1 _ (by omega) (by omega)]; exact a3 j
      · rw [wr_n (by omega), wr_n (by omega), b1 _ (by omega) (by omega)]; exact a4 j
      · rw [wr_n (by omega), wr_n (by omega), b1 _ (by omega) (by omega)]; exact a5 j
      · rw [wr_n (by omega), wr_n (by omega), b1 _ (by omega) (by omega)]; exact a6 j
      · rw [wr_n (by omega), wr_n (by omega)]; exact b2 j
      · rw [wr_n (by omega), wr_n (by omega)]; exact b3 j
      · rw [wr_k _ (by omega), wr_s, b1 _ (by omega) (by omega), a1 _ (by omega) (by omega) (by omega) (by omega) (by omega)]
      · rw [wr_s, wr_n (by omega), b1 _ (by omega) (by omega), a1 _ (by omega) (by omega) (by omega) (by omega) (by omega)]
    · obtain ⟨b1, b2, b3, b4⟩ := hI
      have e1 := cl4 (p := i) (by omega)
      have v6 := vp_in_nI (n := i) (N := 6) hi (by omega)
      refine ⟨fun z => absurd z (le_n (n := 6) (by omega) hi), fun _ => ⟨v6, v6, ?_⟩⟩
      rintro M11 rfl
      refine ⟨v6, v6, ?_⟩
      rintro M12 rfl x rfl
      rw [nI_1, e1]
      have g6 : rd M' (o1 + 6) i = rd M (o1 + 6) i := by rw [b1 _ (by omega) (by omega), a1 _ (by omega) (by omega) (by omega) (by omega) (by omega)]
      have g7 : rd M' (o1 + 7) i = rd M (o1 + 7) i := by rw [b1 _ (by omega) (by omega), a1 _ (by omega) (by omega) (by omega) (by omega) (by omega)]
      refine ih _ ⟨fun q q1 q2 j => ?_, fun j => ?_, fun j => ?_, b4⟩
      · rw [wr_n q2, wr_n q1]; exact b1 q q1 q2 j
      · rw [wr_n (by omega), wr_q]; exact cp_step b2 g6 j
      · rw [wr_q, wr_n (by omega), wr_n (by omega)]
        exact cp_step b3 (by rw [g7]; exact nar_zb (hz7 i hi)) j
  have l3 : ∀ M1 : Mem, (∀ q, q ≠ o + 1 → q ≠ o + 2 → q ≠ o + 3 → ∀ j, rd M1 q j = rd M q j) → cp M M1 (o + 1) (o1 + 1) 4 → cp M M1 (o + 2) (o1 + 2) 4 → cp M M1 (o + 3) (o1 + 3) 2 → M1.2 = M.2 → P64 M1 0 := by
    intro M1 a1 a2 a3 a4 a7
    refine for_up (P := P64) (n := 4) (fun i M' => (∀ q, q ≠ o + 4 → q ≠ o + 5 → ∀ j, rd M' q j = rd M1 q j) ∧ cp M M' (o + 4) (o1 + 4) i ∧ cp M M' (o + 5) (o1 + 5) i ∧ M'.2 = M.2) (fun M' hI => h64 _ _ ?_) (fun i M' hi hI ih => h64 _ _ ?_) 0 (Nat.zero_le _) M1 ⟨fun _ _ _ _ => rfl, fun j => by rw [if_neg (by omega), a1 _ (by omega) (by omega) (by omega)], fun j => by rw [if_neg (by omega), a1 _ (by omega) (by omega) (by omega)], a7⟩
    · obtain ⟨b1, b2, b3, b4⟩ := hI
      refine ⟨fun _ => l4 M' (fun q q1 q2 q3 q4 q5 j => by rw [b1 q q4 q5, a1 q q1 q2 q3]) (fun j => by rw [b1 _ (by omega) (by omega)]; exact a2 j) (fun j => by rw [b1 _ (by omega) (by omega)]; exact a3 j) (fun j => by rw [b1 _ (by omega) (by omega)]; exact a4 j) b2 b3 b4, fun z => absurd (Int32.le_refl _) z⟩
    · obtain ⟨b1, b2, b3, b4⟩ := hI
      have e1 := cl4 (p := i) (by omega)
      have v6 := vp_in_nI (n := i) (N := 4) hi (by omega)
      refine ⟨fun z => absurd z (le_n (n := 4) (by omega) hi), fun _ => ⟨v6, v6, ?_⟩⟩
      rintro M11 rfl
      refine ⟨v6, v6, ?_⟩
      rintro M12 rfl x rfl
      rw [nI_1, e1]
      have g6 : rd M' (o1 + 4) i = rd M (o1 + 4) i := by rw [b1 _ (by omega) (by omega), a1 _ (by omega) (by omega) (by omega)]
      have g7 : rd M' (o1 + 5) i = rd M (o1 + 5) i := by rw [b1 _ (by omega) (by omega), a1 _ (by omega) (by omega) (by omega)]
      refine ih _ ⟨fun q q1 q2 j => ?_, fun j => ?_, fun j => ?_, b4⟩
      · rw [wr_n q2, wr_n q1]; exact b1 q q1 q2 j
      · rw [wr_n (by omega), wr_q]; exact cp_step b2 g6 j
      · rw [wr_q, wr_n (by omega), wr_n (by omega)]
        exact cp_step b3 (by rw [g7]; exact nar_zb (hz5 i hi)) j
  have l2 : ∀ M1 : Mem, (∀ q, q ≠ o + 1 → q ≠ o + 2 → ∀ j, rd M1 q j = rd M q j) → cp M M1 (o + 1) (o1 + 1) 4 → cp M M1 (o + 2) (o1 + 2) 4 → M1.2 = M.2 → P39 M1 0 := by
    intro M1 a1 a2 a3 a7
    refine for_up (P := P39) (n := 2) (fun i M' => (∀ q, q ≠ o + 3 → ∀ j, rd M' q j = rd M1 q j) ∧ cp M M' (o + 3) (o1 + 3) i ∧ M'.2 = M.2) (fun M' hI => h39 _ _ ?_) (fun i M' hi hI ih => h39 _ _ ?_) 0 (Nat.zero_le _) M1 ⟨fun _ _ _ => rfl, fun j => by rw [if_neg (by omega), a1 _ (by omega) (by omega)], a7⟩
    · obtain ⟨b1, b2, b4⟩ := hI
      refine ⟨fun _ => l3 M' (fun q q1 q2 q3 j => by rw [b1 q q3, a1 q q1 q2]) (fun j => by rw [b1 _ (by omega)]; exact a2 j) (fun j => by rw [b1 _ (by omega)]; exact a3 j) b2 b4, fun z => absurd (Int32.le_refl _) z⟩
    · obtain ⟨b1, b2, b4⟩ := hI
      have e1 := cl4 (p := i) (by omega)
      have v6 := vp_in_nI (n := i) (N := 2) hi (by omega)
      refine ⟨fun z => absurd z (le_n (n := 2) (by omega) hi), fun _ => ⟨v6, v6, ?_⟩⟩
      rintro M11 rfl x rfl
      rw [nI_1, e1]
      have g6 : rd M' (o1 + 3) i = rd M (o1 + 3) i := by rw [b1 _ (by omega), a1 _ (by omega) (by omega)]
      refine ih _ ⟨fun q q1 j => ?_, fun j => ?_, b4⟩
      · rw [wr_n q1]; exact b1 q q1 j
      · rw [wr_q]; exact cp_step b2 g6 j
  refine for_up (P := P2) (n := 4) (fun i M' => (∀ q, q ≠ o + 1 → q ≠ o + 2 → ∀ j, rd M' q j = rd M q j) ∧ cp M M' (o + 1) (o1 + 1) i ∧ cp M M' (o + 2) (o1 + 2) i ∧ M'.2 = M.2) (fun M' hI => h2 _ _ ?_) (fun i M' hi hI ih => h2 _ _ ?_) 0 (Nat.zero_le _) M ⟨fun _ _ _ _ => rfl, fun j => by rw [if_neg (by omega)], fun j => by rw [if_neg (by omega)], rfl⟩
  · obtain ⟨b1, b2, b3, b4⟩ := hI
    exact ⟨fun _ => l2 M' b1 b2 b3 b4, fun z => absurd (Int32.le_refl _) z⟩
  · obtain ⟨b1, b2, b3, b4⟩ := hI
    have e1 := cl4 (p := i) (by omega)
    have v6 := vp_in_nI (n := i) (N := 4) hi (by omega)
    refine ⟨fun z => absurd z (le_n (n := 4) (by omega) hi), fun _ => ⟨v6, v6, ?_⟩⟩
    rintro M11 rfl
    refine ⟨v6, v6, ?_⟩
    rintro M12 rfl x rfl
    rw [nI_1, e1]
    have g6 : rd M' (o1 + 1) i = rd M (o1 + 1) i := by rw [b1 _ (by omega) (by omega)]
    have g7 : rd M' (o1 + 2) i = rd M (o1 + 2) i := by rw [b1 _ (by omega) (by omega)]
    refine ih _ ⟨fun q q1 q2 j => ?_, fun j => ?_, fun j => ?_, b4⟩
    · rw [wr_n q2, wr_n q1]; exact b1 q q1 q2 j
    · rw [wr_n (by omega), wr_q]; exact cp_step b2 g6 j
    · rw [wr_q, wr_n (by omega), wr_n (by omega)]; exact cp_step b3 g7 j
