/-! ===== what holds between the calls ===== -/
def EQ (M : Mem) (q q' : Nat) : Prop := ∀ j, rd M q j = rd M q' j
/-- an Affairs and the model's rows -/
def AR (M : Mem) (o pu pl ke su pa si sn go : Nat) : Prop := EQ M (o + 1) pu ∧ EQ M (o + 2) pl ∧ EQ M (o + 3) ke ∧ EQ M (o + 4) su ∧ EQ M (o + 5) pa ∧ rd M o 8 = rd M 29 sn ∧ rd M o 9 = rd M 29 go ∧ ∀ j, j < 6 → rd M (o + 6) j = rd M si (2 * j) ∧ rd M (o + 7) j = rd M si (2 * j + 1)
/-- an Affairs that fits a house of a rooms, c people, d debts -/
def AW (M : Mem) (o a c d : Nat) : Prop := (∀ p, p < c → ∃ x, x < a ∧ rd M (o + 2) p = nI x) ∧ (0 < c → ∀ k, k < 2 → ∃ x, x < c ∧ rd M (o + 3) k = nI x) ∧ (∀ k, k < d → ∃ x, 1 ≤ x ∧ x ≤ 9 ∧ rd M (o + 4) k = nI x) ∧ (∀ k, k < 4 → zb (rd M (o + 5) k)) ∧ (∃ s, s ≤ 6 ∧ rd M o 8 = nI s ∧ ∀ j, j < s → ∃ x, x < d ∧ rd M (o + 6) j = nI x) ∧ (∀ j, j < 6 → zb (rd M (o + 7) j)) ∧ ∃ g, g ≤ 999 ∧ rd M o 9 = nI g
def HW (M : Mem) (a b c d : Nat) : Prop := (∀ k, k < b → ∃ x y, x < a ∧ y < a ∧ x ≠ y ∧ rd M 4 k = nI x ∧ rd M 5 k = nI y ∧ (rd M 6 k = -1 ∨ rd M 6 k = 0 ∨ rd M 6 k = 1)) ∧ (∀ p, p < 4 → ∃ x, x < 5 ∧ rd M (11 + p) 0 = nI x) ∧ ∀ k, k < d → ∃ x y z, x < c ∧ y < c ∧ x ≠ y ∧ z < a ∧ rd M 8 k = nI x ∧ rd M 9 k = nI y ∧ rd M 10 k = nI z
def HR (M : Mem) : Prop := EQ M 4 31 ∧ EQ M 5 32 ∧ EQ M 6 33 ∧ (∀ p, p < 4 → rd M (11 + p) 0 = rd M 34 p) ∧ EQ M 8 38 ∧ EQ M 9 39 ∧ EQ M 10 40
def CN (M : Mem) (a b c d : Nat) : Prop := rd M 3 0 = nI a ∧ rd M 3 1 = nI b ∧ rd M 3 2 = nI c ∧ rd M 3 3 = nI d ∧ rd M 29 4 = nI a ∧ rd M 29 5 = nI b ∧ rd M 29 6 = nI c ∧ rd M 29 7 = nI d ∧ a ≤ 6 ∧ b ≤ 6 ∧ c ≤ 4 ∧ d ≤ 4 ∧ (a = 0 ∧ b = 0 ∧ c = 0 ∧ d = 0 ∨ 2 ≤ a ∧ 1 ≤ b ∧ 2 ≤ c ∧ 1 ≤ d)
def PG (M : Mem) : Prop := ∃ l, l ≤ 64 ∧ rd M 1 1 = nI l ∧ rd M 29 1 = nI l ∧ (∀ j, rd M 2 j = rd M 30 j) ∧ ∀ j, j < l → ∃ x, 1 ≤ x ∧ x ≤ 126 ∧ rd M 30 j = nI x
def KP (n : Nat) (M : Mem) : Prop := ∃ k, k ≤ n ∧ rd M 0 9 = nI k ∧ rd M 29 9 = nI k ∧ (rd M 0 8 = 1 ∧ rd M 29 34 = nI k ∨ rd M 0 8 = 0 ∧ (rd M 29 34 = -1 ∨ ∃ j, j < k ∧ rd M 29 34 = nI j))
def ARn (M : Mem) : Prop := AR M 59 35 36 37 41 42 52 31 8
def ARk (M : Mem) : Prop := AR M 67 53 54 55 56 57 58 36 35
def Inv (n : Nat) (M : Mem) : Prop := n ≤ 64 ∧ ∃ a b c d, CN M a b c d ∧ HW M a b c d ∧ HR M ∧ ARn M ∧ AW M 59 a c d ∧ ARk M ∧ (rd M 0 8 = 1 → AW M 67 a c d) ∧ PG M ∧ KP n M
/-- the cells that matter from call to call -/
def core (q : Nat) : Prop := q = 0 ∨ 2 ≤ q ∧ q ≤ 14 ∨ 30 ≤ q ∧ q ≤ 42 ∨ 52 ≤ q ∧ q ≤ 74
def slots29 (k : Nat) : Prop := k = 1 ∨ 4 ≤ k ∧ k ≤ 9 ∨ k = 31 ∨ 34 ≤ k ∧ k ≤ 36
/-- nothing of that has changed -/
def Fr (M M' : Mem) : Prop := (∀ q, core q → ∀ j, rd M' q j = rd M q j) ∧ rd M' 1 1 = rd M 1 1 ∧ ∀ k, slots29 k → rd M' 29 k = rd M 29 k
theorem Fr.rf (M : Mem) : Fr M M := ⟨fun _ _ _ => rfl, rfl, fun _ _ => rfl⟩
theorem Fr.tr {M N K : Mem} (h : Fr M N) (g : Fr N K) : Fr M K := ⟨fun q hq j => (g.1 q hq j).trans (h.1 q hq j), g.2.1.trans h.2.1, fun k hk => (g.2.2 k hk).trans (h.2.2 k hk)⟩
theorem Fr.wr {M : Mem} {q k : Nat} {v : Int32} (h : ¬ core q ∧ (q = 1 → k ≠ 1) ∧ (q = 29 → ¬ slots29 k)) : Fr M (wr M q k v) := by
  refine ⟨fun a ha j => ?_, ?_, fun i hi => ?_⟩
  · rw [rd_wr, if_neg]
    intro z
    exact h.1 (z.1 ▸ ha)
  · rw [rd_wr, if_neg]
    intro z
    exact h.2.1 z.1.symm z.2.symm
  · rw [rd_wr, if_neg]
    intro z
    exact h.2.2 z.1.symm (z.2 ▸ hi)
theorem Fr.wrH (M : Mem) (v : Int64) : Fr M (wrH M v) := ⟨fun _ _ _ => rfl, rfl, fun _ _ => rfl⟩
theorem Fr.eq {M M' : Mem} (h : Fr M M') {q q' : Nat} (hq : core q) (hq' : core q') (e : EQ M q q') : EQ M' q q' := fun j => by rw [h.1 q hq, h.1 q' hq']; exact e j
theorem Fr.cn {M M' : Mem} (h : Fr M M') {a b c d : Nat} (e : CN M a b c d) : CN M' a b c d := by
  unfold CN at e ⊢
  have h3 := h.1 3 (by unfold core; omega)
  rw [h3, h3, h3, h3, h.2.2 4 (by unfold slots29; omega), h.2.2 5 (by unfold slots29; omega), h.2.2 6 (by unfold slots29; omega), h.2.2 7 (by unfold slots29; omega)]
  exact e
theorem Fr.hw {M M' : Mem} (h : Fr M M') {a b c d : Nat} (e : HW M a b c d) : HW M' a b c d := by
  obtain ⟨e1, e2, e3⟩ := e
  refine ⟨fun k hk => ?_, fun p hp => ?_, fun k hk => ?_⟩
  · rw [h.1 4 (by unfold core; omega), h.1 5 (by unfold core; omega), h.1 6 (by unfold core; omega)]
    exact e1 k hk
  · rw [h.1 (11 + p) (by unfold core; omega)]
    exact e2 p hp
  · rw [h.1 8 (by unfold core; omega), h.1 9 (by unfold core; omega), h.1 10 (by unfold core; omega)]
    exact e3 k hk
theorem Fr.hr {M M' : Mem} (h : Fr M M') (e : HR M) : HR M' := by
  obtain ⟨e1, e2, e3, e4, e5, e6, e7⟩ := e
  refine ⟨h.eq (by unfold core; omega) (by unfold core; omega) e1, h.eq (by unfold core; omega) (by unfold core; omega) e2, h.eq (by unfold core; omega) (by unfold core; omega) e3, fun p hp => ?_, h.eq (by unfold core; omega) (by unfold core; omega) e5, h.eq (by unfold core; omega) (by unfold core; omega) e6, h.eq (by unfold core; omega) (by unfold core; omega) e7⟩
  rw [h.1 (11 + p) (by unfold core; omega), h.1 34 (by unfold core; omega)]
  exact e4 p hp
theorem Fr.ar {M M' : Mem} (h : Fr M M') {o pu pl ke su pa si sn go : Nat} (ho : o = 59 ∨ o = 67) (h1 : core pu) (h2 : core pl) (h3 : core ke) (h4 : core su) (h5 : core pa) (h6 : core si) (h7 : slots29 sn) (h8 : slots29 go) (e : AR M o pu pl ke su pa si sn go) : AR M' o pu pl ke su pa si sn go := by
  obtain ⟨e1, e2, e3, e4, e5, e6, e7, e8⟩ := e
  refine ⟨h.eq (by unfold core; omega) h1 e1, h.eq (by unfold core; omega) h2 e2, h.eq (by unfold core; omega) h3 e3, h.eq (by unfold core; omega) h4 e4, h.eq (by unfold core; omega) h5 e5, ?_, ?_, fun j hj => ?_⟩
  · rw [h.1 o (by unfold core; omega), h.2.2 sn h7]; exact e6
  · rw [h.1 o (by unfold core; omega), h.2.2 go h8]; exact e7
  · rw [h.1 (o + 6) (by unfold core; omega), h.1 (o + 7) (by unfold core; omega), h.1 si h6, h.1 si h6]
    exact e8 j hj
theorem aw_congr {M M' : Mem} {o a c d : Nat} (h : ∀ i, i < 8 → ∀ j, rd M' (o + i) j = rd M (o + i) j) (e : AW M o a c d) : AW M' o a c d := by
  obtain ⟨e1, e2, e3, e4, e5, e6, e7⟩ := e
  have h0 : ∀ j, rd M' o j = rd M o j := h 0 (by omega)
  refine ⟨fun p hp => by rw [h 2 (by omega)]; exact e1 p hp, fun hc k hk => by rw [h 3 (by omega)]; exact e2 hc k hk, fun k hk => by rw [h 4 (by omega)]; exact e3 k hk, fun k => by rw [h 5 (by omega)]; exact e4 k, ?_, fun j => by rw [h 7 (by omega)]; exact e6 j, by rw [h0]; exact e7⟩
  obtain ⟨s, s1, s2, s3⟩ := e5
  exact ⟨s, s1, by rw [h0]; exact s2, fun j hj => by rw [h 6 (by omega)]; exact s3 j hj⟩
theorem Fr.aw {M M' : Mem} (h : Fr M M') {o a c d : Nat} (ho : o = 59 ∨ o = 67) (e : AW M o a c d) : AW M' o a c d := aw_congr (fun i hi j => h.1 (o + i) (by unfold core; omega) j) e
theorem Fr.pg {M M' : Mem} (h : Fr M M') (e : PG M) : PG M' := by
  obtain ⟨l, e1, e2, e3, e4, e5⟩ := e
  refine ⟨l, e1, by rw [h.2.1]; exact e2, by rw [h.2.2 1 (by unfold slots29; omega)]; exact e3, fun j => ?_, fun j hj => ?_⟩
  · rw [h.1 2 (by unfold core; omega), h.1 30 (by unfold core; omega)]; exact e4 j
  · rw [h.1 30 (by unfold core; omega)]; exact e5 j hj
theorem Fr.kp {M M' : Mem} (h : Fr M M') {n : Nat} (e : KP n M) : KP n M' := by
  unfold KP at e ⊢
  rw [h.1 0 (by unfold core; omega), h.1 0 (by unfold core; omega), h.2.2 9 (by unfold slots29; omega), h.2.2 34 (by unfold slots29; omega)]
  exact e
theorem Fr.inv {M M' : Mem} (h : Fr M M') {n : Nat} (e : Inv n M) : Inv n M' := by
  obtain ⟨e0, a, b, c, d, e1, e2, e3, e4, e5, e6, e7, e8, e9⟩ := e
  refine ⟨e0, a, b, c, d, h.cn e1, h.hw e2, h.hr e3, h.ar (Or.inl rfl) (by unfold core; omega) (by unfold core; omega) (by unfold core; omega) (by unfold core; omega) (by unfold core; omega) (by unfold core; omega) (by unfold slots29; omega) (by unfold slots29; omega) e4, h.aw (Or.inl rfl) e5, h.ar (Or.inr rfl) (by unfold core; omega) (by unfold core; omega) (by unfold core; omega) (by unfold core; omega) (by unfold core; omega) (by unfold core; omega) (by unfold slots29; omega) (by unfold slots29; omega) e6, fun z => h.aw (Or.inr rfl) (e7 ?_), h.pg e8, h.kp e9⟩
  rw [← h.1 0 (by unfold core; omega)]
  exact z
theorem fin_eq {r r' : Int32} {K : Prop} (e : r = r') (k : K) : (r = r' → K) ∧ (¬ r = r' → False) := ⟨fun _ => k, fun h => h e⟩
theorem Inv.up {n m : Nat} {M : Mem} (h : Inv n M) (hm : n ≤ m) (hm2 : m ≤ 64) : Inv m M := by
  obtain ⟨e0, a, b, c, d, e1, e2, e3, e4, e5, e6, e7, e8, k, k1, k2⟩ := h
  exact ⟨hm2, a, b, c, d, e1, e2, e3, e4, e5, e6, e7, e8, k, by omega, k2⟩
