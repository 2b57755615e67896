/-! ===== the page: one letter, both sides ===== -/
abbrev ST := Nat × Nat × Nat × Nat × Nat × Nat × Nat
def CSt (M : Mem) (s : ST) : Prop := CS M s.1 s.2.1 s.2.2.1 s.2.2.2.1 s.2.2.2.2.1 s.2.2.2.2.2.1 s.2.2.2.2.2.2
def dEf : Nat → Nat → Nat
  | 0, _ => 0
  | 1, _ => 0
  | _ + 2, dr => 4 * dr + 1
def pEf : Nat → Nat → Nat → Nat
  | 0, _, _ => 0
  | 1, _, _ => 0
  | 2, _, _ => 0
  | _ + 3, dr, pe => 4 * dr + 4 * pe + 1
def MSt (lt : Nat → Nat) (l : Nat) (M : Mem) (s : ST) : Prop := MS lt l M (dEf s.1 s.2.2.2.2.1) (pEf s.1 s.2.2.2.2.1 s.2.2.2.2.2.1)
def drOK (lt : Nat → Nat) (R j : Nat) : Prop := (48 ≤ lt j ∧ lt j < 48 + R) ∧ (48 ≤ lt (j + 1) ∧ lt (j + 1) < 48 + R) ∧ lt (j + 1) ≠ lt j ∧ (lt (j + 2) = 111 ∨ lt (j + 2) = 97 ∨ lt (j + 2) = 98)
def peOK (lt : Nat → Nat) (R j : Nat) : Prop := kdOK (lt j) ∧ (48 ≤ lt (j + 1) ∧ lt (j + 1) < 48 + 10) ∧ 48 ≤ lt (j + 2) ∧ lt (j + 2) < 48 + R
def keOK (lt : Nat → Nat) (R pe j : Nat) : Prop := (48 ≤ lt j ∧ lt j < 48 + pe) ∧ (48 ≤ lt (j + 1) ∧ lt (j + 1) < 48 + pe) ∧ lt (j + 1) ≠ lt j ∧ (48 ≤ lt (j + 2) ∧ lt (j + 2) < 48 + R) ∧ 49 ≤ lt (j + 3) ∧ lt (j + 3) < 58
def CTn (lt : Nat → Nat) (R dr pe de : Nat) : Prop := lt 0 = R + 48 ∧ 2 ≤ R ∧ R ≤ 6 ∧ (∀ k, k < dr → drOK lt R (2 + 4 * k)) ∧ (∀ k, k < pe → peOK lt R (2 + 4 * dr + 4 * k)) ∧ ∀ k, k < de → keOK lt R pe (2 + 4 * dr + 4 * pe + 5 * k)
theorem CTn.d {lt : Nat → Nat} {R dr : Nat} (h : CTn lt R dr 0 0) (g : drOK lt R (2 + 4 * dr)) : CTn lt R (dr + 1) 0 0 := ⟨h.1, h.2.1, h.2.2.1, fun k hk => by
  by_cases e : k < dr
  · exact h.2.2.2.1 k e
  · have : k = dr := by omega
    subst this
    exact g, fun k hk => absurd hk (Nat.not_lt_zero _), fun k hk => absurd hk (Nat.not_lt_zero _)⟩
theorem CTn.p {lt : Nat → Nat} {R dr pe : Nat} (h : CTn lt R dr pe 0) (g : peOK lt R (2 + 4 * dr + 4 * pe)) : CTn lt R dr (pe + 1) 0 := ⟨h.1, h.2.1, h.2.2.1, h.2.2.2.1, fun k hk => by
  by_cases e : k < pe
  · exact h.2.2.2.2.1 k e
  · have : k = pe := by omega
    subst this
    exact g, fun k hk => absurd hk (Nat.not_lt_zero _)⟩
theorem CTn.k {lt : Nat → Nat} {R dr pe de : Nat} (h : CTn lt R dr pe de) (g : keOK lt R pe (2 + 4 * dr + 4 * pe + 5 * de)) : CTn lt R dr pe (de + 1) := ⟨h.1, h.2.1, h.2.2.1, h.2.2.2.1, h.2.2.2.2.1, fun k hk => by
  by_cases e : k < de
  · exact h.2.2.2.2.2 k e
  · have : k = de := by omega
    subst this
    exact g⟩
def JS (lt : Nat → Nat) (i : Nat) (s : ST) : Prop := ∃ fi R dr pe de, (s = (0, 0, fi, R, 0, 0, 0) ∧ i = 0) ∨ (s = (0, 1, fi, R, 0, 0, 0) ∧ CTn lt R 0 0 0 ∧ i = 1) ∨ (s = (1, 0, fi, R, dr, 0, 0) ∧ CTn lt R dr 0 0 ∧ dr ≤ 5 ∧ i = 2 + 4 * dr) ∨ (s = (1, 1, fi, R, dr, 0, 0) ∧ CTn lt R dr 0 0 ∧ dr ≤ 5 ∧ i = 2 + 4 * dr + 1 ∧ lt (2 + 4 * dr) = fi + 48 ∧ fi < R) ∨ (s = (1, 2, fi, R, dr, 0, 0) ∧ CTn lt R dr 0 0 ∧ dr ≤ 5 ∧ i = 2 + 4 * dr + 2 ∧ (48 ≤ lt (2 + 4 * dr) ∧ lt (2 + 4 * dr) < 48 + R) ∧ (48 ≤ lt (2 + 4 * dr + 1) ∧ lt (2 + 4 * dr + 1) < 48 + R) ∧ lt (2 + 4 * dr + 1) ≠ lt (2 + 4 * dr)) ∨ (s = (1, 3, fi, R, dr, 0, 0) ∧ CTn lt R dr 0 0 ∧ (1 ≤ dr ∧ dr ≤ 6) ∧ i = 4 * dr + 1) ∨ (s = (2, 0, fi, R, dr, pe, 0) ∧ CTn lt R dr pe 0 ∧ (1 ≤ dr ∧ dr ≤ 6) ∧ pe ≤ 3 ∧ i = 2 + 4 * dr + 4 * pe) ∨ (s = (2, 1, fi, R, dr, pe, 0) ∧ CTn lt R dr pe 0 ∧ (1 ≤ dr ∧ dr ≤ 6) ∧ pe ≤ 3 ∧ i = 2 + 4 * dr + 4 * pe + 1 ∧ kdOK (lt (2 + 4 * dr + 4 * pe))) ∨ (s = (2, 2, fi, R, dr, pe, 0) ∧ CTn lt R dr pe 0 ∧ (1 ≤ dr ∧ dr ≤ 6) ∧ pe ≤ 3 ∧ i = 2 + 4 * dr + 4 * pe + 2 ∧ kdOK (lt (2 + 4 * dr + 4 * pe)) ∧ 48 ≤ lt (2 + 4 * dr + 4 * pe + 1) ∧ lt (2 + 4 * dr + 4 * pe + 1) < 48 + 10) ∨ (s = (2, 3, fi, R, dr, pe, 0) ∧ CTn lt R dr pe 0 ∧ (1 ≤ dr ∧ dr ≤ 6) ∧ (1 ≤ pe ∧ pe ≤ 4) ∧ i = 4 * dr + 4 * pe + 1) ∨ (s = (3, 0, fi, R, dr, pe, de) ∧ CTn lt R dr pe de ∧ (1 ≤ dr ∧ dr ≤ 6) ∧ (2 ≤ pe ∧ pe ≤ 4) ∧ de ≤ 3 ∧ i = 2 + 4 * dr + 4 * pe + 5 * de) ∨ (s = (3, 1, fi, R, dr, pe, de) ∧ CTn lt R dr pe de ∧ (1 ≤ dr ∧ dr ≤ 6) ∧ (2 ≤ pe ∧ pe ≤ 4) ∧ de ≤ 3 ∧ i = 2 + 4 * dr + 4 * pe + 5 * de + 1 ∧ lt (2 + 4 * dr + 4 * pe + 5 * de) = fi + 48 ∧ fi < pe) ∨ (s = (3, 2, fi, R, dr, pe, de) ∧ CTn lt R dr pe de ∧ (1 ≤ dr ∧ dr ≤ 6) ∧ (2 ≤ pe ∧ pe ≤ 4) ∧ de ≤ 3 ∧ i = 2 + 4 * dr + 4 * pe + 5 * de + 2 ∧ (48 ≤ lt (2 + 4 * dr + 4 * pe + 5 * de) ∧ lt (2 + 4 * dr + 4 * pe + 5 * de) < 48 + pe) ∧ (48 ≤ lt (2 + 4 * dr + 4 * pe + 5 * de + 1) ∧ lt (2 + 4 * dr + 4 * pe + 5 * de + 1) < 48 + pe) ∧ lt (2 + 4 * dr + 4 * pe + 5 * de + 1) ≠ lt (2 + 4 * dr + 4 * pe + 5 * de)) ∨ (s = (3, 3, fi, R, dr, pe, de) ∧ CTn lt R dr pe de ∧ (1 ≤ dr ∧ dr ≤ 6) ∧ (2 ≤ pe ∧ pe ≤ 4) ∧ de ≤ 3 ∧ i = 2 + 4 * dr + 4 * pe + 5 * de + 3 ∧ (48 ≤ lt (2 + 4 * dr + 4 * pe + 5 * de) ∧ lt (2 + 4 * dr + 4 * pe + 5 * de) < 48 + pe) ∧ (48 ≤ lt (2 + 4 * dr + 4 * pe + 5 * de + 1) ∧ lt (2 + 4 * dr + 4 * pe + 5 * de + 1) < 48 + pe) ∧ lt (2 + 4 * dr + 4 * pe + 5 * de + 1) ≠ lt (2 + 4 * dr + 4 * pe + 5 * de) ∧ 48 ≤ lt (2 + 4 * dr + 4 * pe + 5 * de + 2) ∧ lt (2 + 4 * dr + 4 * pe + 5 * de + 2) < 48 + R) ∨ (s = (3, 4, fi, R, dr, pe, de) ∧ CTn lt R dr pe de ∧ (1 ≤ dr ∧ dr ≤ 6) ∧ (2 ≤ pe ∧ pe ≤ 4) ∧ (1 ≤ de ∧ de ≤ 4) ∧ i = 4 * dr + 4 * pe + 5 * de + 1)
def StepR (lt : Nat → Nat) (l i : Nat) (s : ST) : Prop := (∃ s' : ST, JS lt (i + 1) s' ∧ (∀ (M : Mem) (Post : Int32 → Mem → Prop), CSt M s → (∀ M', FPg M M' → CSt M' s' → Post 1 M') → wp_X6_takes Post M (nI (lt i))) ∧ (∀ (M : Mem) (Post : Int32 → Mem → Prop), MSt lt l M s → (∀ M', FMd M M' → MSt lt l M' s' → Post 1 M') → wp_X12_isGood Post M (nI i))) ∨ ((∀ (M : Mem) (Post : Int32 → Mem → Prop), CSt M s → (∀ M', FPg M M' → Post 0 M') → wp_X6_takes Post M (nI (lt i))) ∧ (∀ (M : Mem) (Post : Int32 → Mem → Prop), MSt lt l M s → (∀ M', FMd M M' → Post 0 M') → wp_X12_isGood Post M (nI i)))
theorem st_0 {lt : Nat → Nat} {l i fi R dr pe de : Nat} (hl : l ≤ 64) (hi : i < l) (hx : lt i < 127) (H : i = 0) : StepR lt l i (0, 0, fi, R, 0, 0, 0) := by
  have e := H
  by_cases hc : 50 ≤ lt i ∧ lt i ≤ 54
  · refine Or.inl ⟨(0, 1, fi, lt i - 48, 0, 0, 0), ⟨fi, lt i - 48, dr, pe, de, ?_⟩, fun M Post h k => c_00 (show CS M 0 0 fi R 0 0 0 from h) hx (fun _ M' f c => k M' f c) (fun z => absurd hc z), fun M Post h k => m_00 (show MS lt l M 0 0 from h) hi hx e (fun _ => k M (FMd.rf M) h) (fun z => absurd hc z)⟩
    exact Or.inr (Or.inl ⟨rfl, ⟨by rw [← e]; omega, by omega, by omega, fun k hk => absurd hk (Nat.not_lt_zero _), fun k hk => absurd hk (Nat.not_lt_zero _), fun k hk => absurd hk (Nat.not_lt_zero _)⟩, by omega⟩)
  · exact Or.inr ⟨fun M Post h k => c_00 (show CS M 0 0 fi R 0 0 0 from h) hx (fun z => absurd z hc) (fun _ M' f => k M' f), fun M Post h k => m_00 (show MS lt l M 0 0 from h) hi hx e (fun z => absurd z hc) (fun _ => k M (FMd.rf M))⟩
theorem st_1 {lt : Nat → Nat} {l i fi R dr pe de : Nat} (hl : l ≤ 64) (hi : i < l) (hx : lt i < 127) (H : CTn lt R 0 0 0 ∧ i = 1) : StepR lt l i (0, 1, fi, R, 0, 0, 0) := by
  obtain ⟨ct, e⟩ := H
  have hR6 : R ≤ 6 := ct.2.2.1
  have hRb : R < 900 := by omega
  by_cases hc : lt i = 59
  · refine Or.inl ⟨(1, 0, fi, R, 0, 0, 0), ⟨fi, R, 0, pe, de, ?_⟩, fun M Post h k => c_01 (show CS M 0 1 fi R 0 0 0 from h) hx (fun _ M' f c => k M' f c) (fun z => absurd hc z), fun M Post h k => m_01 (show MS lt l M 0 0 from h) hi hx e (fun _ => k M (FMd.rf M) h) (fun z => absurd hc z)⟩
    exact Or.inr (Or.inr (Or.inl ⟨rfl, ct, by omega, by omega⟩))
  · exact Or.inr ⟨fun M Post h k => c_01 (show CS M 0 1 fi R 0 0 0 from h) hx (fun z => absurd z hc) (fun _ M' f => k M' f), fun M Post h k => m_01 (show MS lt l M 0 0 from h) hi hx e (fun z => absurd z hc) (fun _ => k M (FMd.rf M))⟩
theorem st_2 {lt : Nat → Nat} {l i fi R dr pe de : Nat} (hl : l ≤ 64) (hi : i < l) (hx : lt i < 127) (H : CTn lt R dr 0 0 ∧ dr ≤ 5 ∧ i = 2 + 4 * dr) : StepR lt l i (1, 0, fi, R, dr, 0, 0) := by
  obtain ⟨ct, hd, e⟩ := H
  have hR6 : R ≤ 6 := ct.2.2.1
  have hRb : R < 900 := by omega
  by_cases hc : 48 ≤ lt i ∧ lt i < 48 + R
  · refine Or.inl ⟨(1, 1, lt i - 48, R, dr, 0, 0), ⟨lt i - 48, R, dr, pe, de, ?_⟩, fun M Post h k => c_10 (show CS M 1 0 fi R dr 0 0 from h) hx hRb (fun _ M' f c => k M' f c) (fun z => absurd hc z), fun M Post h k => m_10 (show MS lt l M 0 0 from h) rfl hl hi ct.1 hRb hx e (fun _ => k M (FMd.rf M) h) (fun z => absurd hc z)⟩
    exact Or.inr (Or.inr (Or.inr (Or.inl ⟨rfl, ct, hd, by omega, by rw [← e]; omega, by omega⟩)))
  · exact Or.inr ⟨fun M Post h k => c_10 (show CS M 1 0 fi R dr 0 0 from h) hx hRb (fun z => absurd z hc) (fun _ M' f => k M' f), fun M Post h k => m_10 (show MS lt l M 0 0 from h) rfl hl hi ct.1 hRb hx e (fun z => absurd z hc) (fun _ => k M (FMd.rf M))⟩
theorem st_3 {lt : Nat → Nat} {l i fi R dr pe de : Nat} (hl : l ≤ 64) (hi : i < l) (hx : lt i < 127) (H : CTn lt R dr 0 0 ∧ dr ≤ 5 ∧ i = 2 + 4 * dr + 1 ∧ lt (2 + 4 * dr) = fi + 48 ∧ fi < R) : StepR lt l i (1, 1, fi, R, dr, 0, 0) := by
  obtain ⟨ct, hd, e, ef, hf⟩ := H
  have hR6 : R ≤ 6 := ct.2.2.1
  have hRb : R < 900 := by omega
  by_cases hc : 48 ≤ lt i ∧ lt i < 48 + R ∧ lt i - 48 ≠ fi
  · refine Or.inl ⟨(1, 2, fi, R, dr, 0, 0), ⟨fi, R, dr, pe, de, ?_⟩, fun M Post h k => c_11 (show CS M 1 1 fi R dr 0 0 from h) hx hRb (by omega) (fun _ M' f c => k M' f c) (fun z => absurd hc z), fun M Post h k => m_11 (show MS lt l M 0 0 from h) rfl hl hi ct.1 hRb hx (by omega) e (fun _ => k M (FMd.rf M) h) (fun z => absurd (by omega) z)⟩
    exact Or.inr (Or.inr (Or.inr (Or.inr (Or.inl ⟨rfl, ct, hd, by omega, by omega, by rw [← e]; omega, by rw [← e]; omega⟩))))
  · exact Or.inr ⟨fun M Post h k => c_11 (show CS M 1 1 fi R dr 0 0 from h) hx hRb (by omega) (fun z => absurd z hc) (fun _ M' f => k M' f), fun M Post h k => m_11 (show MS lt l M 0 0 from h) rfl hl hi ct.1 hRb hx (by omega) e (fun z => absurd (by omega) hc) (fun _ => k M (FMd.rf M))⟩
theorem st_4 {lt : Nat → Nat} {l i fi R dr pe de : Nat} (hl : l ≤ 64) (hi : i < l) (hx : lt i < 127) (H : CTn lt R dr 0 0 ∧ dr ≤ 5 ∧ i = 2 + 4 * dr + 2 ∧ (48 ≤ lt (2 + 4 * dr) ∧ lt (2 + 4 * dr) < 48 + R) ∧ (48 ≤ lt (2 + 4 * dr + 1) ∧ lt (2 + 4 * dr + 1) < 48 + R) ∧ lt (2 + 4 * dr + 1) ≠ lt (2 + 4 * dr)) : StepR lt l i (1, 2, fi, R, dr, 0, 0) := by
  obtain ⟨ct, hd, e, g0, g1, g2⟩ := H
  have hR6 : R ≤ 6 := ct.2.2.1
  have hRb : R < 900 := by omega
  by_cases hc : lt i = 111 ∨ lt i = 97 ∨ lt i = 98
  · refine Or.inl ⟨(1, 3, fi, R, dr + 1, 0, 0), ⟨fi, R, dr + 1, pe, de, ?_⟩, fun M Post h k => c_12 (show CS M 1 2 fi R dr 0 0 from h) hx (fun _ M' f c => k M' f c) (fun z => absurd hc z), fun M Post h k => m_12 (show MS lt l M 0 0 from h) rfl hl hi hx e (fun _ => k M (FMd.rf M) h) (fun z => absurd hc z)⟩
    exact Or.inr (Or.inr (Or.inr (Or.inr (Or.inr (Or.inl ⟨rfl, ct.d ⟨g0, g1, g2, by rw [← e]; exact hc⟩, by omega, by omega⟩)))))
  · exact Or.inr ⟨fun M Post h k => c_12 (show CS M 1 2 fi R dr 0 0 from h) hx (fun z => absurd z hc) (fun _ M' f => k M' f), fun M Post h k => m_12 (show MS lt l M 0 0 from h) rfl hl hi hx e (fun z => absurd z hc) (fun _ => k M (FMd.rf M))⟩
theorem st_6 {lt : Nat → Nat} {l i fi R dr pe de : Nat} (hl : l ≤ 64) (hi : i < l) (hx : lt i < 127) (H : CTn lt R dr pe 0 ∧ (1 ≤ dr ∧ dr ≤ 6) ∧ pe ≤ 3 ∧ i = 2 + 4 * dr + 4 * pe) : StepR lt l i (2, 0, fi, R, dr, pe, 0) := by
  obtain ⟨ct, hd, hp, e⟩ := H
  have hR6 : R ≤ 6 := ct.2.2.1
  have hRb : R < 900 := by omega
  by_cases hc : kdOK (lt i)
  · refine Or.inl ⟨(2, 1, fi, R, dr, pe, 0), ⟨fi, R, dr, pe, de, ?_⟩, fun M Post h k => c_20 (show CS M 2 0 fi R dr pe 0 from h) hx (fun _ M' f c => k M' f c) (fun z => absurd hc z), fun M Post h k => m_20 (show MS lt l M (4 * dr + 1) 0 from h) rfl rfl hl hi hx (pe := pe) (by omega) (fun _ => k M (FMd.rf M) h) (fun z => absurd hc z)⟩
    exact Or.inr (Or.inr (Or.inr (Or.inr (Or.inr (Or.inr (Or.inr (Or.inl ⟨rfl, ct, hd, hp, by omega, by rw [← e]; exact hc⟩)))))))
  · exact Or.inr ⟨fun M Post h k => c_20 (show CS M 2 0 fi R dr pe 0 from h) hx (fun z => absurd z hc) (fun _ M' f => k M' f), fun M Post h k => m_20 (show MS lt l M (4 * dr + 1) 0 from h) rfl rfl hl hi hx (pe := pe) (by omega) (fun z => absurd z hc) (fun _ => k M (FMd.rf M))⟩
theorem st_7 {lt : Nat → Nat} {l i fi R dr pe de : Nat} (hl : l ≤ 64) (hi : i < l) (hx : lt i < 127) (H : CTn lt R dr pe 0 ∧ (1 ≤ dr ∧ dr ≤ 6) ∧ pe ≤ 3 ∧ i = 2 + 4 * dr + 4 * pe + 1 ∧ kdOK (lt (2 + 4 * dr + 4 * pe))) : StepR lt l i (2, 1, fi, R, dr, pe, 0) := by
  obtain ⟨ct, hd, hp, e, g0⟩ := H
  have hR6 : R ≤ 6 := ct.2.2.1
  have hRb : R < 900 := by omega
  by_cases hc : 48 ≤ lt i ∧ lt i < 48 + 10
  · refine Or.inl ⟨(2, 2, fi, R, dr, pe, 0), ⟨fi, R, dr, pe, de, ?_⟩, fun M Post h k => c_21 (show CS M 2 1 fi R dr pe 0 from h) hx (fun _ M' f c => k M' f c) (fun z => absurd hc z), fun M Post h k => m_21 (show MS lt l M (4 * dr + 1) 0 from h) rfl rfl hl hi hx (pe := pe) (by omega) (fun _ => k M (FMd.rf M) h) (fun z => absurd hc z)⟩
    exact Or.inr (Or.inr (Or.inr (Or.inr (Or.inr (Or.inr (Or.inr (Or.inr (Or.inl ⟨rfl, ct, hd, hp, by omega, g0, by rw [← e]; exact hc⟩))))))))
  · exact Or.inr ⟨fun M Post h k => c_21 (show CS M 2 1 fi R dr pe 0 from h) hx (fun z => absurd z hc) (fun _ M' f => k M' f), fun M Post h k => m_21 (show MS lt l M (4 * dr + 1) 0 from h) rfl rfl hl hi hx (pe := pe) (by omega) (fun z => absurd z hc) (fun _ => k M (FMd.rf M))⟩
theorem st_8 {lt : Nat → Nat} {l i fi R dr pe de : Nat} (hl : l ≤ 64) (hi : i < l) (hx : lt i < 127) (H : CTn lt R dr pe 0 ∧ (1 ≤ dr ∧ dr ≤ 6) ∧ pe ≤ 3 ∧ i = 2 + 4 * dr + 4 * pe + 2 ∧ kdOK (lt (2 + 4 * dr + 4 * pe)) ∧ 48 ≤ lt (2 + 4 * dr + 4 * pe + 1) ∧ lt (2 + 4 * dr + 4 * pe + 1) < 48 + 10) : StepR lt l i (2, 2, fi, R, dr, pe, 0) := by
  obtain ⟨ct, hd, hp, e, g0, g1⟩ := H
  have hR6 : R ≤ 6 := ct.2.2.1
  have hRb : R < 900 := by omega
  by_cases hc : 48 ≤ lt i ∧ lt i < 48 + R
  · refine Or.inl ⟨(2, 3, fi, R, dr, pe + 1, 0), ⟨fi, R, dr, pe + 1, de, ?_⟩, fun M Post h k => c_22 (show CS M 2 2 fi R dr pe 0 from h) hx hRb (fun _ M' f c => k M' f c) (fun z => absurd hc z), fun M Post h k => m_22 (show MS lt l M (4 * dr + 1) 0 from h) rfl rfl hl hi ct.1 hRb hx (pe := pe) (by omega) (fun _ => k M (FMd.rf M) h) (fun z => absurd hc z)⟩
    exact Or.inr (Or.inr (Or.inr (Or.inr (Or.inr (Or.inr (Or.inr (Or.inr (Or.inr (Or.inl ⟨rfl, ct.p ⟨g0, g1, by rw [← e]; exact hc⟩, hd, by omega, by omega⟩)))))))))
  · exact Or.inr ⟨fun M Post h k => c_22 (show CS M 2 2 fi R dr pe 0 from h) hx hRb (fun z => absurd z hc) (fun _ M' f => k M' f), fun M Post h k => m_22 (show MS lt l M (4 * dr + 1) 0 from h) rfl rfl hl hi ct.1 hRb hx (pe := pe) (by omega) (fun z => absurd z hc) (fun _ => k M (FMd.rf M))⟩
theorem st_10 {lt : Nat → Nat} {l i fi R dr pe de : Nat} (hl : l ≤ 64) (hi : i < l) (hx : lt i < 127) (H : CTn lt R dr pe de ∧ (1 ≤ dr ∧ dr ≤ 6) ∧ (2 ≤ pe ∧ pe ≤ 4) ∧ de ≤ 3 ∧ i = 2 + 4 * dr + 4 * pe + 5 * de) : StepR lt l i (3, 0, fi, R, dr, pe, de) := by
  obtain ⟨ct, hd, hp, hk, e⟩ := H
  have hR6 : R ≤ 6 := ct.2.2.1
  have hRb : R < 900 := by omega
  by_cases hc : 48 ≤ lt i ∧ lt i < 48 + pe
  · refine Or.inl ⟨(3, 1, lt i - 48, R, dr, pe, de), ⟨lt i - 48, R, dr, pe, de, ?_⟩, fun M Post h k => c_30 (show CS M 3 0 fi R dr pe de from h) hx (by omega) (fun _ M' f c => k M' f c) (fun z => absurd hc z), fun M Post h k => m_30 (show MS lt l M (4 * dr + 1) (4 * dr + 4 * pe + 1) from h) rfl (pe := pe) (by omega) hp.1 hl hi hx (de := de) (by omega) (fun _ => k M (FMd.rf M) h) (fun z => absurd hc z)⟩
    exact Or.inr (Or.inr (Or.inr (Or.inr (Or.inr (Or.inr (Or.inr (Or.inr (Or.inr (Or.inr (Or.inr (Or.inl ⟨rfl, ct, hd, hp, hk, by omega, by rw [← e]; omega, by omega⟩)))))))))))
  · exact Or.inr ⟨fun M Post h k => c_30 (show CS M 3 0 fi R dr pe de from h) hx (by omega) (fun z => absurd z hc) (fun _ M' f => k M' f), fun M Post h k => m_30 (show MS lt l M (4 * dr + 1) (4 * dr + 4 * pe + 1) from h) rfl (pe := pe) (by omega) hp.1 hl hi hx (de := de) (by omega) (fun z => absurd z hc) (fun _ => k M (FMd.rf M))⟩
theorem st_11 {lt : Nat → Nat} {l i fi R dr pe de : Nat} (hl : l ≤ 64) (hi : i < l) (hx : lt i < 127) (H : CTn lt R dr pe de ∧ (1 ≤ dr ∧ dr ≤ 6) ∧ (2 ≤ pe ∧ pe ≤ 4) ∧ de ≤ 3 ∧ i = 2 + 4 * dr + 4 * pe + 5 * de + 1 ∧ lt (2 + 4 * dr + 4 * pe + 5 * de) = fi + 48 ∧ fi < pe) : StepR lt l i (3, 1, fi, R, dr, pe, de) := by
  obtain ⟨ct, hd, hp, hk, e, ef, hf⟩ := H
  have hR6 : R ≤ 6 := ct.2.2.1
  have hRb : R < 900 := by omega
  by_cases hc : 48 ≤ lt i ∧ lt i < 48 + pe ∧ lt i - 48 ≠ fi
  · refine Or.inl ⟨(3, 2, fi, R, dr, pe, de), ⟨fi, R, dr, pe, de, ?_⟩, fun M Post h k => c_31 (show CS M 3 1 fi R dr pe de from h) hx (by omega) (by omega) (fun _ M' f c => k M' f c) (fun z => absurd hc z), fun M Post h k => m_31 (show MS lt l M (4 * dr + 1) (4 * dr + 4 * pe + 1) from h) rfl (pe := pe) (by omega) hp.1 hl hi hx (by omega) e (de := de) (by omega) (fun _ => k M (FMd.rf M) h) (fun z => absurd (by omega) z)⟩
    exact Or.inr (Or.inr (Or.inr (Or.inr (Or.inr (Or.inr (Or.inr (Or.inr (Or.inr (Or.inr (Or.inr (Or.inr (Or.inl ⟨rfl, ct, hd, hp, hk, by omega, by omega, by rw [← e]; omega, by rw [← e]; omega⟩))))))))))))
  · exact Or.inr ⟨fun M Post h k => c_31 (show CS M 3 1 fi R dr pe de from h) hx (by omega) (by omega) (fun z => absurd z hc) (fun _ M' f => k M' f), fun M Post h k => m_31 (show MS lt l M (4 * dr + 1) (4 * dr + 4 * pe + 1) from h) rfl (pe := pe) (by omega) hp.1 hl hi hx (by omega) e (de := de) (by omega) (fun z => absurd (by omega) hc) (fun _ => k M (FMd.rf M))⟩
theorem st_12 {lt : Nat → Nat} {l i fi R dr pe de : Nat} (hl : l ≤ 64) (hi : i < l) (hx : lt i < 127) (H : CTn lt R dr pe de ∧ (1 ≤ dr ∧ dr ≤ 6) ∧ (2 ≤ pe ∧ pe ≤ 4) ∧ de ≤ 3 ∧ i = 2 + 4 * dr + 4 * pe + 5 * de + 2 ∧ (48 ≤ lt (2 + 4 * dr + 4 * pe + 5 * de) ∧ lt (2 + 4 * dr + 4 * pe + 5 * de) < 48 + pe) ∧ (48 ≤ lt (2 + 4 * dr + 4 * pe + 5 * de + 1) ∧ lt (2 + 4 * dr + 4 * pe + 5 * de + 1) < 48 + pe) ∧ lt (2 + 4 * dr + 4 * pe + 5 * de + 1) ≠ lt (2 + 4 * dr + 4 * pe + 5 * de)) : StepR lt l i (3, 2, fi, R, dr, pe, de) := by
  obtain ⟨ct, hd, hp, hk, e, g0, g1, g2⟩ := H
  have hR6 : R ≤ 6 := ct.2.2.1
  have hRb : R < 900 := by omega
  by_cases hc : 48 ≤ lt i ∧ lt i < 48 + R
  · refine Or.inl ⟨(3, 3, fi, R, dr, pe, de), ⟨fi, R, dr, pe, de, ?_⟩, fun M Post h k => c_32 (show CS M 3 2 fi R dr pe de from h) hx hRb (fun _ M' f c => k M' f c) (fun z => absurd hc z), fun M Post h k => m_32 (show MS lt l M (4 * dr + 1) (4 * dr + 4 * pe + 1) from h) rfl (pe := pe) (by omega) hp.1 hl hi ct.1 hRb hx (de := de) (by omega) (fun _ => k M (FMd.rf M) h) (fun z => absurd hc z)⟩
    exact Or.inr (Or.inr (Or.inr (Or.inr (Or.inr (Or.inr (Or.inr (Or.inr (Or.inr (Or.inr (Or.inr (Or.inr (Or.inr (Or.inl ⟨rfl, ct, hd, hp, hk, by omega, g0, g1, g2, by rw [← e]; exact hc⟩)))))))))))))
  · exact Or.inr ⟨fun M Post h k => c_32 (show CS M 3 2 fi R dr pe de from h) hx hRb (fun z => absurd z hc) (fun _ M' f => k M' f), fun M Post h k => m_32 (show MS lt l M (4 * dr + 1) (4 * dr + 4 * pe + 1) from h) rfl (pe := pe) (by omega) hp.1 hl hi ct.1 hRb hx (de := de) (by omega) (fun z => absurd z hc) (fun _ => k M (FMd.rf M))⟩
theorem st_13 {lt : Nat → Nat} {l i fi R dr pe de : Nat} (hl : l ≤ 64) (hi : i < l) (hx : lt i < 127) (H : CTn lt R dr pe de ∧ (1 ≤ dr ∧ dr ≤ 6) ∧ (2 ≤ pe ∧ pe ≤ 4) ∧ de ≤ 3 ∧ i = 2 + 4 * dr + 4 * pe + 5 * de + 3 ∧ (48 ≤ lt (2 + 4 * dr + 4 * pe + 5 * de) ∧ lt (2 + 4 * dr + 4 * pe + 5 * de) < 48 + pe) ∧ (48 ≤ lt (2 + 4 * dr + 4 * pe + 5 * de + 1) ∧ lt (2 + 4 * dr + 4 * pe + 5 * de + 1) < 48 + pe) ∧ lt (2 + 4 * dr + 4 * pe + 5 * de + 1) ≠ lt (2 + 4 * dr + 4 * pe + 5 * de) ∧ 48 ≤ lt (2 + 4 * dr + 4 * pe + 5 * de + 2) ∧ lt (2 + 4 * dr + 4 * pe + 5 * de + 2) < 48 + R) : StepR lt l i (3, 3, fi, R, dr, pe, de) := by
  obtain ⟨ct, hd, hp, hk, e, g0, g1, g2, g3⟩ := H
  have hR6 : R ≤ 6 := ct.2.2.1
  have hRb : R < 900 := by omega
  by_cases hc : 49 ≤ lt i ∧ lt i < 58
  · refine Or.inl ⟨(3, 4, fi, R, dr, pe, de + 1), ⟨fi, R, dr, pe, de + 1, ?_⟩, fun M Post h k => c_33 (show CS M 3 3 fi R dr pe de from h) hx (fun _ M' f c => k M' f c) (fun z => absurd hc z), fun M Post h k => m_33 (show MS lt l M (4 * dr + 1) (4 * dr + 4 * pe + 1) from h) rfl (pe := pe) (by omega) hp.1 hl hi hx (de := de) (by omega) (fun _ => k M (FMd.rf M) h) (fun z => absurd hc z)⟩
    exact Or.inr (Or.inr (Or.inr (Or.inr (Or.inr (Or.inr (Or.inr (Or.inr (Or.inr (Or.inr (Or.inr (Or.inr (Or.inr (Or.inr (⟨rfl, ct.k ⟨g0, g1, g2, g3, by rw [← e]; exact hc⟩, hd, hp, by omega, by omega⟩))))))))))))))
  · exact Or.inr ⟨fun M Post h k => c_33 (show CS M 3 3 fi R dr pe de from h) hx (fun z => absurd z hc) (fun _ M' f => k M' f), fun M Post h k => m_33 (show MS lt l M (4 * dr + 1) (4 * dr + 4 * pe + 1) from h) rfl (pe := pe) (by omega) hp.1 hl hi hx (de := de) (by omega) (fun z => absurd z hc) (fun _ => k M (FMd.rf M))⟩
theorem st_5 {lt : Nat → Nat} {l i fi R dr pe de : Nat} (hl : l ≤ 64) (hi : i < l) (hx : lt i < 127) (H : CTn lt R dr 0 0 ∧ (1 ≤ dr ∧ dr ≤ 6) ∧ i = 4 * dr + 1) : StepR lt l i (1, 3, fi, R, dr, 0, 0) := by
  obtain ⟨ct, hd, e⟩ := H
  by_cases h1 : lt i = 44 ∧ dr < 6
  · refine Or.inl ⟨(1, 0, fi, R, dr, 0, 0), ⟨fi, R, dr, pe, de, ?_⟩, fun M Post h k => c_13 (show CS M 1 3 fi R dr 0 0 from h) hx (by omega) (fun _ _ M' f c => k M' f c) (fun z => absurd z (by omega)) (fun z => absurd (Or.inl h1) z), fun M Post h k => m_13 (show MS lt l M 0 0 from h) rfl hl hi hx hd.1 e (fun _ _ => k M (FMd.rf M) h) (fun z => absurd z (by omega)) (fun z => absurd (Or.inl h1) z)⟩
    exact Or.inr (Or.inr (Or.inl ⟨rfl, ct, by omega, by omega⟩))
  · by_cases h2 : lt i = 59
    · refine Or.inl ⟨(2, 0, fi, R, dr, 0, 0), ⟨fi, R, dr, 0, de, ?_⟩, fun M Post h k => c_13 (show CS M 1 3 fi R dr 0 0 from h) hx (by omega) (fun z => absurd z (by omega)) (fun _ M' f c => k M' f c) (fun z => absurd (Or.inr h2) z), fun M Post h k => m_13 (show MS lt l M 0 0 from h) rfl hl hi hx hd.1 e (fun z => absurd z (by omega)) (fun _ M' f c => k M' f c) (fun z => absurd (Or.inr h2) z)⟩
      exact Or.inr (Or.inr (Or.inr (Or.inr (Or.inr (Or.inr (Or.inl ⟨rfl, ct, hd, by omega, by omega⟩))))))
    · exact Or.inr ⟨fun M Post h k => c_13 (show CS M 1 3 fi R dr 0 0 from h) hx (by omega) (fun y1 y2 => absurd ⟨y1, y2⟩ h1) (fun z => absurd z h2) (fun _ M' f => k M' f), fun M Post h k => m_13 (show MS lt l M 0 0 from h) rfl hl hi hx hd.1 e (fun y1 y2 => absurd ⟨y1, y2⟩ h1) (fun z => absurd z h2) (fun _ => k M (FMd.rf M))⟩
theorem st_9 {lt : Nat → Nat} {l i fi R dr pe de : Nat} (hl : l ≤ 64) (hi : i < l) (hx : lt i < 127) (H : CTn lt R dr pe 0 ∧ (1 ≤ dr ∧ dr ≤ 6) ∧ (1 ≤ pe ∧ pe ≤ 4) ∧ i = 4 * dr + 4 * pe + 1) : StepR lt l i (2, 3, fi, R, dr, pe, 0) := by
  obtain ⟨ct, hd, hp, e⟩ := H
  by_cases h1 : lt i = 44 ∧ pe < 4
  · refine Or.inl ⟨(2, 0, fi, R, dr, pe, 0), ⟨fi, R, dr, pe, de, ?_⟩, fun M Post h k => c_23 (show CS M 2 3 fi R dr pe 0 from h) hx (by omega) (fun _ _ M' f c => k M' f c) (fun z => absurd z (by omega)) (fun z => absurd (Or.inl h1) z), fun M Post h k => m_23 (show MS lt l M (4 * dr + 1) 0 from h) rfl rfl hl hi hx hp.1 e (fun _ _ => k M (FMd.rf M) h) (fun z => absurd z (by omega)) (fun z => absurd (Or.inl h1) z)⟩
    exact Or.inr (Or.inr (Or.inr (Or.inr (Or.inr (Or.inr (Or.inl ⟨rfl, ct, hd, by omega, by omega⟩))))))
  · by_cases h2 : lt i = 59 ∧ 2 ≤ pe
    · refine Or.inl ⟨(3, 0, fi, R, dr, pe, 0), ⟨fi, R, dr, pe, 0, ?_⟩, fun M Post h k => c_23 (show CS M 2 3 fi R dr pe 0 from h) hx (by omega) (fun z => absurd z (by omega)) (fun _ _ M' f c => k M' f c) (fun z => absurd (Or.inr h2) z), fun M Post h k => m_23 (show MS lt l M (4 * dr + 1) 0 from h) rfl rfl hl hi hx hp.1 e (fun z => absurd z (by omega)) (fun _ _ M' f c => k M' f c) (fun z => absurd (Or.inr h2) z)⟩
      exact Or.inr (Or.inr (Or.inr (Or.inr (Or.inr (Or.inr (Or.inr (Or.inr (Or.inr (Or.inr (Or.inl ⟨rfl, ct, hd, by omega, by omega, by omega⟩))))))))))
    · exact Or.inr ⟨fun M Post h k => c_23 (show CS M 2 3 fi R dr pe 0 from h) hx (by omega) (fun y1 y2 => absurd ⟨y1, y2⟩ h1) (fun y1 y2 => absurd ⟨y1, y2⟩ h2) (fun _ M' f => k M' f), fun M Post h k => m_23 (show MS lt l M (4 * dr + 1) 0 from h) rfl rfl hl hi hx hp.1 e (fun y1 y2 => absurd ⟨y1, y2⟩ h1) (fun y1 y2 => absurd ⟨y1, y2⟩ h2) (fun _ => k M (FMd.rf M))⟩
theorem st_14 {lt : Nat → Nat} {l i fi R dr pe de : Nat} (hl : l ≤ 64) (hi : i < l) (hx : lt i < 127) (H : CTn lt R dr pe de ∧ (1 ≤ dr ∧ dr ≤ 6) ∧ (2 ≤ pe ∧ pe ≤ 4) ∧ (1 ≤ de ∧ de ≤ 4) ∧ i = 4 * dr + 4 * pe + 5 * de + 1) : StepR lt l i (3, 4, fi, R, dr, pe, de) := by
  obtain ⟨ct, hd, hp, hk, e⟩ := H
  by_cases h1 : lt i = 44 ∧ de < 4
  · refine Or.inl ⟨(3, 0, fi, R, dr, pe, de), ⟨fi, R, dr, pe, de, ?_⟩, fun M Post h k => c_34 (show CS M 3 4 fi R dr pe de from h) hx (by omega) (fun _ _ M' f c => k M' f c) (fun z => absurd h1 z), fun M Post h k => m_34 (show MS lt l M (4 * dr + 1) (4 * dr + 4 * pe + 1) from h) rfl (pe := pe) (by omega) hp.1 hl hi hx hk.1 (by omega) (fun _ _ => k M (FMd.rf M) h) (fun z => absurd h1 z)⟩
    exact Or.inr (Or.inr (Or.inr (Or.inr (Or.inr (Or.inr (Or.inr (Or.inr (Or.inr (Or.inr (Or.inl ⟨rfl, ct, hd, hp, by omega, by omega⟩))))))))))
  · exact Or.inr ⟨fun M Post h k => c_34 (show CS M 3 4 fi R dr pe de from h) hx (by omega) (fun y1 y2 => absurd ⟨y1, y2⟩ h1) (fun _ M' f => k M' f), fun M Post h k => m_34 (show MS lt l M (4 * dr + 1) (4 * dr + 4 * pe + 1) from h) rfl (pe := pe) (by omega) hp.1 hl hi hx hk.1 (by omega) (fun y1 y2 => absurd ⟨y1, y2⟩ h1) (fun _ => k M (FMd.rf M))⟩
theorem st_all {lt : Nat → Nat} {l i : Nat} {s : ST} (hl : l ≤ 64) (hi : i < l) (hx : lt i < 127) (H : JS lt i s) : StepR lt l i s := by
  obtain ⟨fi, R, dr, pe, de, H⟩ := H
  rcases H with ⟨rfl, H⟩ | ⟨rfl, H⟩ | ⟨rfl, H⟩ | ⟨rfl, H⟩ | ⟨rfl, H⟩ | ⟨rfl, H⟩ | ⟨rfl, H⟩ | ⟨rfl, H⟩ | ⟨rfl, H⟩ | ⟨rfl, H⟩ | ⟨rfl, H⟩ | ⟨rfl, H⟩ | ⟨rfl, H⟩ | ⟨rfl, H⟩ | ⟨rfl, H⟩
  · exact st_0 (fi := fi) (R := R) (dr := dr) (pe := pe) (de := de) hl hi hx H
  · exact st_1 (fi := fi) (R := R) (dr := dr) (pe := pe) (de := de) hl hi hx H
  · exact st_2 (fi := fi) (R := R) (dr := dr) (pe := pe) (de := de) hl hi hx H
  · exact st_3 (fi := fi) (R := R) (dr := dr) (pe := pe) (de := de) hl hi hx H
  · exact st_4 (fi := fi) (R := R) (dr := dr) (pe := pe) (de := de) hl hi hx H
  · exact st_5 (fi := fi) (R := R) (dr := dr) (pe := pe) (de := de) hl hi hx H
  · exact st_6 (fi := fi) (R := R) (dr := dr) (pe := pe) (de := de) hl hi hx H
  · exact st_7 (fi := fi) (R := R) (dr := dr) (pe := pe) (de := de) hl hi hx H
  · exact st_8 (fi := fi) (R := R) (dr := dr) (pe := pe) (de := de) hl hi hx H
  · exact st_9 (fi := fi) (R := R) (dr := dr) (pe := pe) (de := de) hl hi hx H
  · exact st_10 (fi := fi) (R := R) (dr := dr) (pe := pe) (de := de) hl hi hx H
  · exact st_11 (fi := fi) (R := R) (dr := dr) (pe := pe) (de := de) hl hi hx H
  · exact st_12 (fi := fi) (R := R) (dr := dr) (pe := pe) (de := de) hl hi hx H
  · exact st_13 (fi := fi) (R := R) (dr := dr) (pe := pe) (de := de) hl hi hx H
  · exact st_14 (fi := fi) (R := R) (dr := dr) (pe := pe) (de := de) hl hi hx H
