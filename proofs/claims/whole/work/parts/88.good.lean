/-! ===== the page: the model, state by state ===== -/
def MS (lt : Nat → Nat) (l : Nat) (M : Mem) (dE pE : Nat) : Prop := rd M 29 1 = nI l ∧ (∀ j, j < l → rd M 30 j = nI (lt j)) ∧ rd M 29 2 = nI dE ∧ rd M 29 3 = nI pE
def FMd (M M' : Mem) : Prop := (∀ q, q ≠ 29 → ∀ j, rd M' q j = rd M q j) ∧ ∀ j, j ≠ 2 → j ≠ 3 → rd M' 29 j = rd M 29 j
theorem FMd.rf (M : Mem) : FMd M M := ⟨fun _ _ _ => rfl, fun _ _ _ => rfl⟩
theorem FMd.tr {M N K : Mem} (h : FMd M N) (g : FMd N K) : FMd M K := ⟨fun q hq j => (g.1 q hq j).trans (h.1 q hq j), fun j h1 h2 => (g.2 j h1 h2).trans (h.2 j h1 h2)⟩
theorem FMd.w (M : Mem) {k : Nat} (v : Int32) (hk : k = 2 ∨ k = 3) : FMd M (wr M 29 k v) := ⟨fun q hq j => wr_n hq j, fun j h1 h2 => wr_k 29 (by omega)⟩
section MTk
variable {M : Mem} {Post : Int32 → Mem → Prop} {lt : Nat → Nat} {l i dE pE R dr pe de x : Nat}
theorem MS.w2 (h : MS lt l M dE pE) (y : Nat) : MS lt l (wr M 29 2 (nI y)) y pE := ⟨(wr_k 29 (by omega)).trans h.1, fun j hj => (wr_n (by omega) j).trans (h.2.1 j hj), wr_s _ _ _ _, (wr_k 29 (by omega)).trans h.2.2.2⟩
theorem MS.w3 (h : MS lt l M dE pE) (y : Nat) : MS lt l (wr M 29 3 (nI y)) dE y := ⟨(wr_k 29 (by omega)).trans h.1, fun j hj => (wr_n (by omega) j).trans (h.2.1 j hj), (wr_k 29 (by omega)).trans h.2.2.1, wr_s _ _ _ _⟩
theorem m_in {b c : Int64} {lo hi : Nat} (hb : b.toInt = lo) (hc : c.toInt = hi) (hx : x < 1000) (k1 : lo ≤ x ∧ x ≤ hi → Post 1 M) (k0 : ¬ (lo ≤ x ∧ x ≤ hi) → Post 0 M) : wp_X12_in Post M ((nI x).toInt64) b c := by
  refine sp_in (lo := lo) (hi := hi) hb hc (fun h => k1 ?_) (fun h => k0 (fun z => h ?_))
  · rw [nI_toInt (by omega)] at h
    omega
  · rw [nI_toInt (by omega)]
    omega
theorem m_room (h : MS lt l M dE pE) (h0 : 0 < l) (hR : lt 0 = R + 48) (hRb : R < 900) (hx : x < 127) (k1 : 48 ≤ x ∧ x < 48 + R → Post 1 M) (k0 : ¬ (48 ≤ x ∧ x < 48 + R) → Post 0 M) : wp_X12_isRoomLetter Post M (nI x) := by
  refine ⟨vp_in_nI (n := 0) (by omega) (by omega), ?_⟩
  have e00 : (0 : Int32).toNatClampNeg = 0 := by decide
  rw [e00, h.2.1 0 h0, hR]
  refine m_in (lo := 48) (hi := R + 47) (by decide) ?_ (by omega) (fun z => ⟨z1, k1 (by omega)⟩) (fun z => ⟨z0, k0 (by omega)⟩)
  rw [nI_m1 (by omega)]
  omega
theorem m_pd (h : MS lt l M dE pE) (hp : pE = dE + 4 * pe) (hpe : 1 ≤ pe) (hpb : pE < 900) (hx : x < 127) (k1 : 48 ≤ x ∧ x < 48 + pe → Post 1 M) (k0 : ¬ (48 ≤ x ∧ x < 48 + pe) → Post 0 M) : wp_X12_isPersonDigit Post M (nI x) := by
  unfold wp_X12_isPersonDigit
  have e : (48 : Int32) + (rd M 29 3 - rd M 29 2) / 4 = nI (48 + pe) := by
    rw [h.2.2.1, h.2.2.2, pk_sub (by omega)]
    have e1 : nI (pE - dE) / 4 = nI ((pE - dE) / 4) := pk_div (d := 4) (by omega) (by omega) (by omega)
    rw [e1, show (pE - dE) / 4 = pe by omega]
    exact nI_add 48 pe
  rw [e]
  refine m_in (lo := 48) (hi := pe + 47) (by decide) ?_ (by omega) (fun z => ⟨z1, k1 (by omega)⟩) (fun z => ⟨z0, k0 (by omega)⟩)
  rw [nI_m1 (by omega)]
  omega
theorem mg_d (h : MS lt l M dE pE) (hz : dE = 0) (h2 : 2 ≤ i) (hi : i < 64) (k : wp_X12_isDoorLetter (fun r M => zb r ∧ Post r M) M (nI i)) : wp_X12_isGood Post M (nI i) := by
  unfold wp_X12_isGood
  rw [h.2.2.1, hz]
  exact ⟨fun _ => ⟨fun z => absurd (by decide) z, fun _ => k⟩, fun z => absurd (nI_le (a := 2) (b := i) h2 (by omega)) z⟩
theorem mg_p (h : MS lt l M dE pE) (hz : 0 < dE) (hdb : dE < 900) (hpz : pE = 0) (h2 : 2 ≤ i) (hi : i < 64) (k : wp_X12_isPersonLetter (fun r M => zb r ∧ Post r M) M (nI i)) : wp_X12_isGood Post M (nI i) := by
  unfold wp_X12_isGood
  rw [h.2.2.1, h.2.2.2, hpz]
  exact ⟨fun _ => ⟨fun _ => ⟨fun z => absurd (by decide) z, fun _ => k⟩, fun z => absurd z (nI_ne0 hz (by omega))⟩, fun z => absurd (nI_le (a := 2) (b := i) h2 (by omega)) z⟩
theorem mg_k (h : MS lt l M dE pE) (hz : 0 < dE) (hdb : dE < 900) (hpz : 0 < pE) (hpb : pE < 900) (h2 : 2 ≤ i) (hi : i < 64) (k : wp_X12_isDebtLetter (fun r M => zb r ∧ Post r M) M (nI i)) : wp_X12_isGood Post M (nI i) := by
  unfold wp_X12_isGood
  rw [h.2.2.1, h.2.2.2]
  exact ⟨fun _ => ⟨fun _ => ⟨fun _ => k, fun z => absurd z (nI_ne0 hpz (by omega))⟩, fun z => absurd z (nI_ne0 hz (by omega))⟩, fun z => absurd (nI_le (a := 2) (b := i) h2 (by omega)) z⟩
theorem md_res (h2 : 2 ≤ i) (hi : i < 64) : (nI i - 2) - (nI i - 2) / 4 * 4 = nI ((i - 2) % 4) := by
  have e : nI i - 2 = nI (i - 2) := pk_sub (b := 2) h2
  rw [e]
  exact pk_rem (d := 4) (by omega) (by omega) (by omega)
theorem mp_res {y : Int32} {b : Nat} (hy : y = nI b) (hb : b < 1000) : y - y / 4 * 4 = nI (b % 4) := by
  rw [hy]
  exact pk_rem (d := 4) (by omega) (by omega) (by omega)
theorem mk_res {y : Int32} {b : Nat} (hy : y = nI b) (hb : b < 1000) : y - y / 5 * 5 = nI (b % 5) := by
  rw [hy]
  exact pk_rem (d := 5) (by omega) (by omega) (by omega)
theorem mb_e {q b : Nat} (h : i = q + 1 + b) : nI i - nI q - 1 = nI b := by
  rw [pk_sub (by omega), nI_sub1 (by omega), show i - q - 1 = b by omega]
theorem m_00 (h : MS lt l M dE pE) (hi : i < l) (hx : lt i < 127) (e : i = 0) (k1 : 50 ≤ lt i ∧ lt i ≤ 54 → Post 1 M) (k0 : ¬ (50 ≤ lt i ∧ lt i ≤ 54) → Post 0 M) : wp_X12_isGood Post M (nI i) := by
  subst e
  have e00 : (0 : Int32).toNatClampNeg = 0 := by decide
  refine ⟨fun z => absurd z (by decide), fun _ => ⟨fun z => absurd (by decide) z, fun _ => ⟨vp_in_nI (n := 0) (by omega) (by omega), ?_⟩⟩⟩
  rw [e00, h.2.1 0 hi]
  exact m_in (lo := 50) (hi := 54) (by decide) (by decide) (by omega) (fun z => ⟨z1, k1 z⟩) (fun z => ⟨z0, k0 z⟩)
theorem m_01 (h : MS lt l M dE pE) (hi : i < l) (hx : lt i < 127) (e : i = 1) (k1 : lt i = 59 → Post 1 M) (k0 : ¬ lt i = 59 → Post 0 M) : wp_X12_isGood Post M (nI i) := by
  subst e
  have e00 : (1 : Int32).toNatClampNeg = 1 := by decide
  have e59 : nI (lt 1) = 59 ↔ lt 1 = 59 := eq_lit (y := 59) (by omega) (by omega)
  refine ⟨fun z => absurd z (by decide), fun _ => ⟨fun _ => ⟨vp_in_nI (n := 1) (by omega) (by omega), ?_⟩, fun z => absurd z (by decide)⟩⟩
  rw [e00, h.2.1 1 hi, e59]
  exact ⟨k0, k1⟩
theorem m_10 (h : MS lt l M dE pE) (hz : dE = 0) (hl : l ≤ 64) (hi : i < l) (hR : lt 0 = R + 48) (hRb : R < 900) (hx : lt i < 127) (e : i = 2 + 4 * dr) (k1 : 48 ≤ lt i ∧ lt i < 48 + R → Post 1 M) (k0 : ¬ (48 ≤ lt i ∧ lt i < 48 + R) → Post 0 M) : wp_X12_isGood Post M (nI i) := by
  refine mg_d h hz (by omega) (by omega) ⟨vp_in_nI (by omega) (by omega), fun y hy => ?_⟩
  rw [cl4 (by omega), h.2.1 i hi] at hy
  rw [hy, md_res (by omega) (by omega), show (i - 2) % 4 = 0 by omega]
  exact ⟨fun _ => m_room h (by omega) hR hRb hx (fun z => ⟨z1, z1, k1 z⟩) (fun z => ⟨z0, z0, k0 z⟩), fun z => absurd z (by decide), fun z => absurd z (by decide), fun z => absurd (by decide) z⟩
theorem m_11 (h : MS lt l M dE pE) (hz : dE = 0) (hl : l ≤ 64) (hi : i < l) (hR : lt 0 = R + 48) (hRb : R < 900) (hx : lt i < 127) (hx1 : lt (2 + 4 * dr) < 127) (e : i = 2 + 4 * dr + 1) (k1 : 48 ≤ lt i ∧ lt i < 48 + R ∧ lt i ≠ lt (2 + 4 * dr) → Post 1 M) (k0 : ¬ (48 ≤ lt i ∧ lt i < 48 + R ∧ lt i ≠ lt (2 + 4 * dr)) → Post 0 M) : wp_X12_isGood Post M (nI i) := by
  refine mg_d h hz (by omega) (by omega) ⟨vp_in_nI (by omega) (by omega), fun y hy => ?_⟩
  have e1 : nI i - 1 = nI (2 + 4 * dr) := by rw [nI_sub1 (by omega), show i - 1 = 2 + 4 * dr by omega]
  rw [cl4 (by omega), h.2.1 i hi] at hy
  rw [hy, md_res (by omega) (by omega), show (i - 2) % 4 = 1 by omega, e1, cl4 (by omega)]
  have ee : nI (lt i) = rd M 30 (2 + 4 * dr) ↔ lt i = lt (2 + 4 * dr) := by rw [h.2.1 (2 + 4 * dr) (by omega), eq_lit (by omega) (by omega)]
  refine ⟨fun z => absurd z (by decide), fun _ => m_room h (by omega) hR hRb hx (fun z => ⟨fun y => absurd y (by decide), fun _ => ⟨vp_in_nI (by omega) (by omega), fun y => ⟨z0, k0 (fun w => w.2.2 (ee.mp y))⟩, fun y => ⟨z1, k1 ⟨z.1, z.2, fun w => y (ee.mpr w)⟩⟩⟩⟩) (fun z => ⟨fun _ => ⟨z0, k0 (fun w => z ⟨w.1, w.2.1⟩)⟩, fun y => absurd rfl y⟩), fun z => absurd z (by decide), fun _ z => absurd (by decide) z⟩
theorem m_12 (h : MS lt l M dE pE) (hz : dE = 0) (hl : l ≤ 64) (hi : i < l) (hx : lt i < 127) (e : i = 2 + 4 * dr + 2) (k1 : lt i = 111 ∨ lt i = 97 ∨ lt i = 98 → Post 1 M) (k0 : ¬ (lt i = 111 ∨ lt i = 97 ∨ lt i = 98) → Post 0 M) : wp_X12_isGood Post M (nI i) := by
  refine mg_d h hz (by omega) (by omega) ⟨vp_in_nI (by omega) (by omega), fun y hy => ?_⟩
  have e1 : nI (lt i) = 111 ↔ lt i = 111 := eq_lit (y := 111) (by omega) (by omega)
  have e2 : nI (lt i) = 97 ↔ lt i = 97 := eq_lit (y := 97) (by omega) (by omega)
  have e3 : nI (lt i) = 98 ↔ lt i = 98 := eq_lit (y := 98) (by omega) (by omega)
  rw [cl4 (by omega), h.2.1 i hi] at hy
  rw [hy, md_res (by omega) (by omega), show (i - 2) % 4 = 2 by omega, e1, e2, e3]
  exact ⟨fun z => absurd z (by decide), fun z => absurd z (by decide), fun _ => ⟨fun z => ⟨z1, k1 (Or.inl z)⟩, fun z => ⟨fun y => ⟨z1, k1 (Or.inr (Or.inl y))⟩, fun y => ⟨fun w => ⟨z0, k0 (by omega)⟩, fun w => ⟨z1, k1 (Or.inr (Or.inr w))⟩⟩⟩⟩, fun _ _ z => absurd (by decide) z⟩
theorem m_13 (h : MS lt l M dE pE) (hz : dE = 0) (hl : l ≤ 64) (hi : i < l) (hx : lt i < 127) (hd : 1 ≤ dr) (e : i = 4 * dr + 1) (k1 : lt i = 44 → dr < 6 → Post 1 M) (k2 : lt i = 59 → ∀ M', FMd M M' → MS lt l M' (4 * dr + 1) pE → Post 1 M') (k0 : ¬ (lt i = 44 ∧ dr < 6 ∨ lt i = 59) → Post 0 M) : wp_X12_isGood Post M (nI i) := by
  refine mg_d h hz (by omega) (by omega) ⟨vp_in_nI (by omega) (by omega), fun y hy => ?_⟩
  have e1 : nI (lt i) = 59 ↔ lt i = 59 := eq_lit (y := 59) (by omega) (by omega)
  have e2 : nI (lt i) = 44 ↔ lt i = 44 := eq_lit (y := 44) (by omega) (by omega)
  have e3 : (25 : Int32) ≤ nI i ↔ 25 ≤ i := nI_leI (a := 25) (by omega) (by omega)
  rw [cl4 (by omega), h.2.1 i hi] at hy
  rw [hy, md_res (by omega) (by omega), show (i - 2) % 4 = 3 by omega, e1, e2, e3]
  refine ⟨fun z => absurd z (by decide), fun z => absurd z (by decide), fun z => absurd z (by decide), fun _ _ _ => ⟨fun z => ⟨fun y => ⟨z0, k0 (by omega)⟩, fun y => ⟨fun w => ⟨z0, k0 (by omega)⟩, fun w => ⟨z1, k1 y (by omega)⟩⟩⟩, fun z M6 e6 => ?_⟩⟩
  subst e6
  have := h.w2 i
  refine ⟨z1, k2 z _ (FMd.w M _ (Or.inl rfl)) ?_⟩
  rw [← e]
  exact this
theorem kb_eq {Q : Int32 → Mem → Prop} (hx : x < 127) (k1 : kdOK x → Q 1 M) (k0 : ¬ kdOK x → Q 0 M) : wp_X12_kindBy (fun r3 M4 => (r3 = (-1) → Q 0 M4) ∧ (¬ r3 = (-1) → Q 1 M4)) M (nI x) := by
  have e1 : nI x = 98 ↔ x = 98 := eq_lit (y := 98) (by omega) (by omega)
  have e2 : nI x = 100 ↔ x = 100 := eq_lit (y := 100) (by omega) (by omega)
  have e3 : nI x = 104 ↔ x = 104 := eq_lit (y := 104) (by omega) (by omega)
  have e4 : nI x = 112 ↔ x = 112 := eq_lit (y := 112) (by omega) (by omega)
  have e5 : nI x = 114 ↔ x = 114 := eq_lit (y := 114) (by omega) (by omega)
  unfold wp_X12_kindBy
  rw [e1, e2, e3, e4, e5]
  unfold kdOK at k1 k0
  exact ⟨fun z => ⟨fun y => absurd y (by decide), fun _ => k1 (by omega)⟩, fun z => ⟨fun y => absurd y (by decide), fun _ => k1 (by omega)⟩, fun z => ⟨fun y => absurd y (by decide), fun _ => k1 (by omega)⟩, fun z => ⟨fun y => absurd y (by decide), fun _ => k1 (by omega)⟩, fun z => ⟨fun y => absurd y (by decide), fun _ => k1 (by omega)⟩, fun y1 y2 y3 y4 y5 => ⟨fun _ => k0 (by omega), fun y => absurd rfl y⟩⟩
theorem m_20 (h : MS lt l M dE pE) (hz : dE = 4 * dr + 1) (hpz : pE = 0) (hl : l ≤ 64) (hi : i < l) (hx : lt i < 127) (e : i = dE + 1 + (4 * pe + 0)) (k1 : kdOK (lt i) → Post 1 M) (k0 : ¬ kdOK (lt i) → Post 0 M) : wp_X12_isGood Post M (nI i) := by
  refine mg_p h (by omega) (by omega) hpz (by omega) (by omega) ⟨vp_in_nI (by omega) (by omega), fun y hy y3 hy3 => ?_⟩
  rw [h.2.2.1, mb_e e] at hy3
  rw [cl4 (by omega), h.2.1 i hi] at hy
  rw [hy, mp_res hy3 (by omega), show (4 * pe + 0) % 4 = 0 by omega]
  exact ⟨fun _ => kb_eq (Q := fun r M => zb r ∧ Post r M) hx (fun z => ⟨z1, k1 z⟩) (fun z => ⟨z0, k0 z⟩), fun z => absurd z (by decide), fun z => absurd z (by decide), fun z => absurd (by decide) z⟩
theorem m_21 (h : MS lt l M dE pE) (hz : dE = 4 * dr + 1) (hpz : pE = 0) (hl : l ≤ 64) (hi : i < l) (hx : lt i < 127) (e : i = dE + 1 + (4 * pe + 1)) (k1 : 48 ≤ lt i ∧ lt i < 48 + 10 → Post 1 M) (k0 : ¬ (48 ≤ lt i ∧ lt i < 48 + 10) → Post 0 M) : wp_X12_isGood Post M (nI i) := by
  refine mg_p h (by omega) (by omega) hpz (by omega) (by omega) ⟨vp_in_nI (by omega) (by omega), fun y hy y3 hy3 => ?_⟩
  rw [h.2.2.1, mb_e e] at hy3
  rw [cl4 (by omega), h.2.1 i hi] at hy
  rw [hy, mp_res hy3 (by omega), show (4 * pe + 1) % 4 = 1 by omega]
  exact ⟨fun z => absurd z (by decide), fun _ => m_in (lo := 48) (hi := 57) (by decide) (by decide) (by omega) (fun z => ⟨z1, z1, k1 (by omega)⟩) (fun z => ⟨z0, z0, k0 (by omega)⟩), fun z => absurd z (by decide), fun _ z => absurd (by decide) z⟩
theorem m_22 (h : MS lt l M dE pE) (hz : dE = 4 * dr + 1) (hpz : pE = 0) (hl : l ≤ 64) (hi : i < l) (hR : lt 0 = R + 48) (hRb : R < 900) (hx : lt i < 127) (e : i = dE + 1 + (4 * pe + 2)) (k1 : 48 ≤ lt i ∧ lt i < 48 + R → Post 1 M) (k0 : ¬ (48 ≤ lt i ∧ lt i < 48 + R) → Post 0 M) : wp_X12_isGood Post M (nI i) := by
  refine mg_p h (by omega) (by omega) hpz (by omega) (by omega) ⟨vp_in_nI (by omega) (by omega), fun y hy y3 hy3 => ?_⟩
  rw [h.2.2.1, mb_e e] at hy3
  rw [cl4 (by omega), h.2.1 i hi] at hy
  rw [hy, mp_res hy3 (by omega), show (4 * pe + 2) % 4 = 2 by omega]
  exact ⟨fun z => absurd z (by decide), fun z => absurd z (by decide), fun _ => m_room h (by omega) hR hRb hx (fun z => ⟨z1, z1, k1 z⟩) (fun z => ⟨z0, z0, k0 z⟩), fun _ _ z => absurd (by decide) z⟩
theorem m_23 (h : MS lt l M dE pE) (hz : dE = 4 * dr + 1) (hpz : pE = 0) (hl : l ≤ 64) (hi : i < l) (hx : lt i < 127) (hp : 1 ≤ pe) (e : i = 4 * dr + 4 * pe + 1) (k1 : lt i = 44 → pe < 4 → Post 1 M) (k2 : lt i = 59 → 2 ≤ pe → ∀ M', FMd M M' → MS lt l M' dE (4 * dr + 4 * pe + 1) → Post 1 M') (k0 : ¬ (lt i = 44 ∧ pe < 4 ∨ lt i = 59 ∧ 2 ≤ pe) → Post 0 M) : wp_X12_isGood Post M (nI i) := by
  refine mg_p h (by omega) (by omega) hpz (by omega) (by omega) ⟨vp_in_nI (by omega) (by omega), fun y hy y3 hy3 => ?_⟩
  have e1 : nI (lt i) = 59 ↔ lt i = 59 := eq_lit (y := 59) (by omega) (by omega)
  have e2 : nI (lt i) = 44 ↔ lt i = 44 := eq_lit (y := 44) (by omega) (by omega)
  have e3 : (15 : Int32) ≤ nI (4 * pe - 1) ↔ 15 ≤ 4 * pe - 1 := nI_leI (a := 15) (by omega) (by omega)
  have e4 : nI (4 * pe - 1) ≤ (3 : Int32) ↔ 4 * pe - 1 ≤ 3 := nI_leI (b := 3) (by omega) (by omega)
  rw [h.2.2.1, mb_e (b := 4 * pe - 1) (by omega)] at hy3
  rw [cl4 (by omega), h.2.1 i hi] at hy
  unfold wp_X12_isPersonLetter_b94
  rw [hy, mp_res hy3 (by omega), show (4 * pe - 1) % 4 = 3 by omega, hy3, e1, e2, e3, e4]
  refine ⟨fun z => absurd z (by decide), fun z => absurd z (by decide), fun z => absurd z (by decide), fun _ _ _ => ⟨fun z => ⟨fun y => ⟨z0, k0 (by omega)⟩, fun y => ⟨fun w => ⟨z0, k0 (by omega)⟩, fun w => ⟨z1, k1 y (by omega)⟩⟩⟩, fun z => ⟨fun w => ⟨fun y => ⟨z0, k0 (by omega)⟩, fun y => absurd y (by omega)⟩, fun w M9 e9 => ?_⟩⟩⟩
  subst e9
  have := h.w3 i
  refine ⟨z1, k2 z (by omega) _ (FMd.w M _ (Or.inr rfl)) ?_⟩
  rw [← e]
  exact this
theorem m_30 (h : MS lt l M dE pE) (hz : dE = 4 * dr + 1) (hpz : pE = dE + 4 * pe) (hp : 2 ≤ pe) (hl : l ≤ 64) (hi : i < l) (hx : lt i < 127) (e : i = pE + 1 + (5 * de + 0)) (k1 : 48 ≤ lt i ∧ lt i < 48 + pe → Post 1 M) (k0 : ¬ (48 ≤ lt i ∧ lt i < 48 + pe) → Post 0 M) : wp_X12_isGood Post M (nI i) := by
  refine mg_k h (by omega) (by omega) (by omega) (by omega) (by omega) (by omega) ⟨vp_in_nI (by omega) (by omega), fun y hy y3 hy3 => ?_⟩
  rw [h.2.2.2, mb_e e] at hy3
  rw [cl4 (by omega), h.2.1 i hi] at hy
  rw [hy, mk_res hy3 (by omega), show (5 * de + 0) % 5 = 0 by omega]
  exact ⟨fun _ => m_pd h hpz (by omega) (by omega) hx (fun z => ⟨z1, z1, k1 z⟩) (fun z => ⟨z0, z0, k0 z⟩), fun z => absurd z (by decide), fun z => absurd z (by decide), fun z => absurd z (by decide), fun z => absurd (by decide) z⟩
theorem m_31 {j : Nat} (h : MS lt l M dE pE) (hz : dE = 4 * dr + 1) (hpz : pE = dE + 4 * pe) (hp : 2 ≤ pe) (hl : l ≤ 64) (hi : i < l) (hx : lt i < 127) (hx1 : lt j < 127) (ej : i = j + 1) (e : i = pE + 1 + (5 * de + 1)) (k1 : 48 ≤ lt i ∧ lt i < 48 + pe ∧ lt i ≠ lt j → Post 1 M) (k0 : ¬ (48 ≤ lt i ∧ lt i < 48 + pe ∧ lt i ≠ lt j) → Post 0 M) : wp_X12_isGood Post M (nI i) := by
  refine mg_k h (by omega) (by omega) (by omega) (by omega) (by omega) (by omega) ⟨vp_in_nI (by omega) (by omega), fun y hy y3 hy3 => ?_⟩
  have e1 : nI i - 1 = nI j := by rw [nI_sub1 (by omega), show i - 1 = j by omega]
  rw [h.2.2.2, mb_e e] at hy3
  rw [cl4 (by omega), h.2.1 i hi] at hy
  rw [hy, mk_res hy3 (by omega), show (5 * de + 1) % 5 = 1 by omega, e1, cl4 (by omega)]
  have ee : nI (lt i) = rd M 30 j ↔ lt i = lt j := by rw [h.2.1 j (by omega), eq_lit (by omega) (by omega)]
  exact ⟨fun z => absurd z (by decide), fun _ => m_pd h hpz (by omega) (by omega) hx (fun z => ⟨fun y => absurd y (by decide), fun _ => ⟨vp_in_nI (by omega) (by omega), fun y => ⟨z0, k0 (fun w => w.2.2 (ee.mp y))⟩, fun y => ⟨z1, k1 ⟨z.1, z.2, fun w => y (ee.mpr w)⟩⟩⟩⟩) (fun z => ⟨fun _ => ⟨z0, k0 (fun w => z ⟨w.1, w.2.1⟩)⟩, fun y => absurd rfl y⟩), fun z => absurd z (by decide), fun z => absurd z (by decide), fun _ z => absurd (by decide) z⟩
theorem m_32 (h : MS lt l M dE pE) (hz : dE = 4 * dr + 1) (hpz : pE = dE + 4 * pe) (hp : 2 ≤ pe) (hl : l ≤ 64) (hi : i < l) (hR : lt 0 = R + 48) (hRb : R < 900) (hx : lt i < 127) (e : i = pE + 1 + (5 * de + 2)) (k1 : 48 ≤ lt i ∧ lt i < 48 + R → Post 1 M) (k0 : ¬ (48 ≤ lt i ∧ lt i < 48 + R) → Post 0 M) : wp_X12_isGood Post M (nI i) := by
  refine mg_k h (by omega) (by omega) (by omega) (by omega) (by omega) (by omega) ⟨vp_in_nI (by omega) (by omega), fun y hy y3 hy3 => ?_⟩
  rw [h.2.2.2, mb_e e] at hy3
  rw [cl4 (by omega), h.2.1 i hi] at hy
  rw [hy, mk_res hy3 (by omega), show (5 * de + 2) % 5 = 2 by omega]
  exact ⟨fun z => absurd z (by decide), fun z => absurd z (by decide), fun _ => m_room h (by omega) hR hRb hx (fun z => ⟨z1, z1, k1 z⟩) (fun z => ⟨z0, z0, k0 z⟩), fun z => absurd z (by decide), fun _ _ z => absurd (by decide) z⟩
theorem m_33 (h : MS lt l M dE pE) (hz : dE = 4 * dr + 1) (hpz : pE = dE + 4 * pe) (hp : 2 ≤ pe) (hl : l ≤ 64) (hi : i < l) (hx : lt i < 127) (e : i = pE + 1 + (5 * de + 3)) (k1 : 49 ≤ lt i ∧ lt i < 58 → Post 1 M) (k0 : ¬ (49 ≤ lt i ∧ lt i < 58) → Post 0 M) : wp_X12_isGood Post M (nI i) := by
  refine mg_k h (by omega) (by omega) (by omega) (by omega) (by omega) (by omega) ⟨vp_in_nI (by omega) (by omega), fun y hy y3 hy3 => ?_⟩
  rw [h.2.2.2, mb_e e] at hy3
  rw [cl4 (by omega), h.2.1 i hi] at hy
  rw [hy, mk_res hy3 (by omega), show (5 * de + 3) % 5 = 3 by omega]
  exact ⟨fun z => absurd z (by decide), fun z => absurd z (by decide), fun z => absurd z (by decide), fun _ => m_in (lo := 49) (hi := 57) (by decide) (by decide) (by omega) (fun z => ⟨z1, z1, k1 (by omega)⟩) (fun z => ⟨z0, z0, k0 (by omega)⟩), fun _ _ _ z => absurd (by decide) z⟩
theorem m_34 (h : MS lt l M dE pE) (hz : dE = 4 * dr + 1) (hpz : pE = dE + 4 * pe) (hp : 2 ≤ pe) (hl : l ≤ 64) (hi : i < l) (hx : lt i < 127) (hd : 1 ≤ de) (e : i = pE + 5 * de) (k1 : lt i = 44 → de < 4 → Post 1 M) (k0 : ¬ (lt i = 44 ∧ de < 4) → Post 0 M) : wp_X12_isGood Post M (nI i) := by
  refine mg_k h (by omega) (by omega) (by omega) (by omega) (by omega) (by omega) ⟨vp_in_nI (by omega) (by omega), fun y hy y3 hy3 => ?_⟩
  have e2 : nI (lt i) = 44 ↔ lt i = 44 := eq_lit (y := 44) (by omega) (by omega)
  have e3 : (19 : Int32) ≤ nI (5 * de - 1) ↔ 19 ≤ 5 * de - 1 := nI_leI (a := 19) (by omega) (by omega)
  rw [h.2.2.2, mb_e (b := 5 * de - 1) (by omega)] at hy3
  rw [cl4 (by omega), h.2.1 i hi] at hy
  rw [hy, mk_res hy3 (by omega), show (5 * de - 1) % 5 = 4 by omega, hy3, e2, e3]
  exact ⟨fun z => absurd z (by decide), fun z => absurd z (by decide), fun z => absurd z (by decide), fun z => absurd z (by decide), fun _ _ _ _ => ⟨fun z => ⟨z0, k0 (by omega)⟩, fun z => ⟨fun y => ⟨z0, k0 (by omega)⟩, fun y => ⟨z1, k1 z (by omega)⟩⟩⟩⟩
end MTk
