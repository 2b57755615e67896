theorem sn865 : Cond.methodLink RX7 3 objectInit ∈ gt := gt_t (tb_1 86 rfl) rfl
theorem sn866 : Cond.instanceMethod objectInit ∈ gt := gt_t (tb_1 27 rfl) rfl
theorem sn867 : Cond.code objectInit ⟨#[0xb1]⟩ 1 none ∈ gt := gt_t (tb_1 28 rfl) rfl
theorem s868 : Cond.methodLinkNest RX8 3 yX7_init "DebtRooms" ∈ tables_1 := tb_3 16 rfl
theorem s869 : Cond.methodLinkNest RX2 3 yX8_init "DebtRooms" ∈ tables_1 := tb_3 37 rfl
theorem s870 : Cond.methodLinkNest RX1 3 yX7_init "DebtRooms" ∈ tables_1 := tb_3 23 rfl
theorem s871 : Cond.methodLinkNest RX3 3 yX7_init "DebtRooms" ∈ tables_1 := tb_3 30 rfl
theorem sn872 : Cond.methodLink RX6 3 objectInit ∈ gt := gt_t (tb_1 34 rfl) rfl
theorem sn873 : Cond.arrayClass .int ∈ gt := gt_t (tb_1 73 rfl) rfl
theorem sn874 : Cond.methodLink RX4 3 objectInit ∈ gt := gt_t (tb_1 79 rfl) rfl
theorem s875 : Cond.fieldLink RX4 18 "DebtRooms$House" "lock" "[I" ∈ gt := gt_t (tb_1 111 rfl) rfl
theorem s876 : Cond.fieldLink RX4 27 "DebtRooms$House" "debtor" "[I" ∈ gt := gt_t (tb_1 119 rfl) rfl
theorem s877 : Cond.fieldLink RX4 30 "DebtRooms$House" "creditor" "[I" ∈ gt := gt_t (tb_1 124 rfl) rfl
theorem s878 : Cond.fieldLink RX4 33 "DebtRooms$House" "debtRoom" "[I" ∈ gt := gt_t (tb_1 129 rfl) rfl
theorem sn879 : Cond.methodLink RX0 3 objectInit ∈ gt := gt_t (tb_1 162 rfl) rfl
theorem sn880 : Cond.arrayClass .boolean ∈ gt := gt_t (tb_1 213 rfl) rfl
theorem sn881 : Cond.methodLink RX10 3 objectInit ∈ gt := gt_t (tb_1 219 rfl) rfl
theorem sn882 : Cond.methodLink RX5 3 objectInit ∈ gt := gt_t (tb_1 238 rfl) rfl
theorem s883 : Cond.classLink RX5 9 RX0 ∈ gt := gt_t (tb_1 239 rfl) rfl
theorem sn884 : Cond.instantiable RX0 10 ∈ gt := gt_t (tb_1 158 rfl) rfl
theorem s885 : Cond.methodLinkNest RX5 28 yX0_init "DebtRooms" ∈ tables_1 := tb_2 1 rfl
theorem sn886 : Cond.methodLink RX9 3 objectInit ∈ gt := gt_t (tb_2 24 rfl) rfl
theorem sn887 : Cond.methodLink RX11 1 objectInit ∈ gt := gt_t (tb_1 26 rfl) rfl
theorem s888 : Cond.classLink RX11 7 RX6 ∈ gt := gt_t (tb_1 29 rfl) rfl
theorem sn889 : Cond.instantiable RX6 11 ∈ gt := gt_t (tb_1 30 rfl) rfl
theorem s890 : Cond.methodLinkNest RX11 9 yX6_init "DebtRooms" ∈ tables_1 := tb_1 31 rfl
theorem s891 : Cond.classLink RX11 16 RX4 ∈ gt := gt_t (tb_1 74 rfl) rfl
theorem sn892 : Cond.instantiable RX4 11 ∈ gt := gt_t (tb_1 75 rfl) rfl
theorem s893 : Cond.methodLinkNest RX11 18 yX4_init "DebtRooms" ∈ tables_1 := tb_1 76 rfl
theorem s894 : Cond.classLink RX11 23 RX0 ∈ gt := gt_t (tb_1 157 rfl) rfl
theorem s895 : Cond.methodLinkNest RX11 25 yX0_init "DebtRooms" ∈ tables_1 := tb_1 159 rfl
theorem s896 : Cond.classLink RX11 38 RX10 ∈ gt := gt_t (tb_1 214 rfl) rfl
theorem sn897 : Cond.instantiable RX10 4 ∈ gt := gt_t (tb_1 215 rfl) rfl
theorem s898 : Cond.methodLinkNest RX11 40 yX10_init "DebtRooms" ∈ tables_1 := tb_1 216 rfl
theorem s899 : Cond.classLink RX11 45 RX5 ∈ gt := gt_t (tb_1 233 rfl) rfl
theorem sn900 : Cond.instantiable RX5 5 ∈ gt := gt_t (tb_1 234 rfl) rfl
theorem s901 : Cond.methodLinkNest RX11 47 yX5_init "DebtRooms" ∈ tables_1 := tb_1 235 rfl
theorem s902 : Cond.classLink RX11 52 RX9 ∈ gt := gt_t (tb_2 19 rfl) rfl
theorem sn903 : Cond.instantiable RX9 7 ∈ gt := gt_t (tb_2 20 rfl) rfl
theorem s904 : Cond.methodLinkNest RX11 54 yX9_init "DebtRooms" ∈ tables_1 := tb_2 21 rfl
theorem sn905 : Cond.methodLink RX12 1 objectInit ∈ gt := gt_t (tb_4 177 rfl) rfl
theorem sn906 : Cond.instantiable RX11 10 ∈ gt := gt_t (tb_1 22 rfl) rfl
theorem sn907 : Cond.instantiable RX12 44 ∈ gt := gt_t (tb_4 173 rfl) rfl
theorem s908 : Cond.classLink RL 7 RX11 ∈ gt := gt_t (tb_1 21 rfl) rfl
theorem s909 : Cond.methodLink RL 9 yX11_init ∈ gt := gt_t (tb_1 23 rfl) rfl
theorem s910 : Cond.classLink RL 10 RX12 ∈ gt := gt_t (tb_4 172 rfl) rfl
theorem s911 : Cond.methodLink RL 12 yX12_init ∈ gt := gt_t (tb_4 174 rfl) rfl
def M0 : Mem := (fun q k => if q = 29 ∧ k = 34 then -1 else 0, 0)
def wpos : List Nat := [0, 1, 2, 3, 4, 5, 6, 7, 8, 9, 10, 11, 12, 13, 14, 39, 40, 41, 42, 43, 44, 45, 46, 87, 88, 89, 90, 91, 92, 93, 94, 95, 96, 97, 98, 99, 100, 101, 102, 103, 104, 105, 106, 107, 108, 109, 110, 111, 112, 113, 114, 115, 116, 117, 118, 119, 120, 121, 122, 15, 16, 17, 18, 19, 20, 21, 22, 23, 24, 25, 26, 27, 28, 29, 30, 31, 32, 33, 34, 35, 36, 37, 38, 47, 48, 49, 50, 51, 52, 53, 54, 55, 56, 57, 58, 59, 60, 61, 62, 63, 64, 65, 66, 67, 68, 69, 70, 71, 72, 73, 74, 75, 76, 77, 78, 79, 80, 81, 82, 83, 84, 85, 86]
theorem arr_q {c : ClassId} {n : Nat} {f g : Nat → Option Nat} (h : ∀ j, j < n → f j = g j) : vp_cell c (n, .inr (.inr (.inr (.inr f)))) = vp_cell c (n, .inr (.inr (.inr (.inr g)))) := by
  rw [vp_cell_q, vp_cell_q]
  unfold arrV
  congr 1
  congr 1
  funext j
  show va_rf (f j.val) = va_rf (g j.val)
  rw [h j.val j.isLt]
theorem wpos_nd : va_nd wpos = true := by decide +kernel
theorem inj_of {A : Nat → Prop} {w : va_W} (hD : va_D A w) (z : Nat → Nat) (hat : ∀ i, i < 123 → ∃ p e, wpos[i]? = some p ∧ w[p]? = some (z i, e)) : (∀ i j, i < 123 → j < 123 → z i = z j → i = j) ∧ ∀ i, i < 123 → A (z i) := by
  refine ⟨fun i j hi hj hij => ?_, fun i hi => ?_⟩
  · obtain ⟨p, e, h1, h2⟩ := hat i hi
    obtain ⟨p', e', h3, h4⟩ := hat j hj
    have := hD.1 p p' _ _ h2 h4 hij
    subst this
    exact va_nd_inj wpos wpos_nd i j p h1 h3
  · obtain ⟨p, e, h1, h2⟩ := hat i hi
    exact hD.2 p _ h2
set_option maxHeartbeats 4000000 in
set_option maxRecDepth 100000 in
theorem pack {E0 : Ek} {a0 am : Nat} {u v : va_W} (h1 : pst_X11 E0 a0 u) (h2 : pst_X12 E0 am v) {H : Heap} {A : Nat → Prop} (hP : va_P (eD E0) classes (u ++ v) H) (hD : va_D A (u ++ v)) : ∃ z : Nat → Nat, z 0 = a0 ∧ z 29 = am ∧ va_P (eD E0) classes (ws (E0.1, E0.2.1, z, E0.2.2.2.1, E0.2.2.2.2.1, E0.2.2.2.2.2) M0) H ∧ (∀ i j, i < 123 → j < 123 → z i = z j → i = j) ∧ ∀ i, i < 123 → A (z i) := by
  obtain ⟨ra0, ra1, ra2, ra3, ra4, ra5, ra6, ra7, u2, u4, u6, u8, u10, u12, u14, u16, hu2, hu4, hu6, hu8, hu10, hu12, hu14, hu16, rfl⟩ := h1
  obtain ⟨r0_1, rfl⟩ := hu2
  obtain ⟨r1_1, r1_2, r1_3, r1_4, r1_5, r1_6, r1_7, r1_8, r1_9, r1_10, r1_11, rfl⟩ := hu4
  obtain ⟨r2_1, r2_2, r2_3, r2_4, r2_5, r2_6, r2_7, rfl⟩ := hu6
  obtain ⟨r3_1, r3_2, r3_3, r3_4, r3_5, r3_6, r3_7, rfl⟩ := hu8
  obtain ⟨r4_1, r4_2, r4_3, r4_4, r4_5, r4_6, r4_7, rfl⟩ := hu10
  obtain ⟨r5_1, r5_2, r5_3, rfl⟩ := hu12
  obtain ⟨r6_1, r6_2, r6_3, r6_4, r6_5, r6_6, r6_7, r6_8, r6_9, r6_10, r6_11, r6_12, r6_13, r6_14, r6_15, r6_16, r6_17, r6_18, r6_19, r6_20, r6_21, r6_22, r6_23, r6_24, r6_25, r6_26, r6_27, r6_28, r6_29, r6_30, r6_31, r6_32, r6_33, r6_34, r6_35, r6_36, r6_37, r6_38, r6_39, r6_40, r6_41, r6_42, r6_43, rfl⟩ := hu14
  obtain ⟨r7_1, r7_2, r7_3, r7_4, r7_5, rfl⟩ := hu16
  obtain ⟨mm_1, mm_2, mm_3, mm_4, mm_5, mm_6, mm_7, mm_8, mm_9, mm_10, mm_11, mm_12, mm_13, mm_14, mm_15, mm_16, mm_17, mm_18, mm_19, mm_20, mm_21, mm_22, mm_23, mm_24, mm_25, mm_26, mm_27, mm_28, mm_29, rfl⟩ := h2
  refine ⟨fun q => ([a0, ra0, r0_1, ra1, r1_1, r1_2, r1_3, r1_4, r1_5, r1_6, r1_7, r1_8, r1_9, r1_10, r1_11, ra5, r5_1, r5_2, r5_3, ra6, r6_1, r6_2, r6_3, ra7, r7_1, r7_2, r7_3, r7_4, r7_5, am, mm_1, mm_2, mm_3, mm_4, mm_5, mm_6, mm_7, mm_8, mm_9, mm_10, mm_11, mm_12, mm_13, mm_14, mm_15, mm_16, mm_17, mm_18, mm_19, mm_20, mm_21, mm_22, mm_23, mm_24, mm_25, mm_26, mm_27, mm_28, mm_29, ra2, r2_1, r2_2, r2_3, r2_4, r2_5, r2_6, r2_7, ra3, r3_1, r3_2, r3_3, r3_4, r3_5, r3_6, r3_7, ra4, r4_1, r4_2, r4_3, r4_4, r4_5, r4_6, r4_7, r6_4, r6_5, r6_6, r6_7, r6_8, r6_9, r6_10, r6_11, r6_12, r6_13, r6_14, r6_15, r6_16, r6_17, r6_18, r6_19, r6_20, r6_21, r6_22, r6_23, r6_24, r6_25, r6_26, r6_27, r6_28, r6_29, r6_30, r6_31, r6_32, r6_33, r6_34, r6_35, r6_36, r6_37, r6_38, r6_39, r6_40, r6_41, r6_42, r6_43] : List Nat).getD q 0, rfl, rfl, ?_, inj_of hD _ ?_⟩
  · intro k q hk
    have hk' : k < 123 := by
      have := (List.getElem?_eq_some_iff.mp hk).1
      simpa [ws] using this
    rw [ws_at hk'] at hk
    cases hk
    match k, hk' with
    | 0, _ => exact hP 0 _ rfl
    | 1, _ => exact hP 1 _ rfl
    | 2, _ => exact hP 2 _ rfl
    | 3, _ => exact hP 3 _ rfl
    | 4, _ => exact hP 4 _ rfl
    | 5, _ => exact hP 5 _ rfl
    | 6, _ => exact hP 6 _ rfl
    | 7, _ => exact (hP 7 _ rfl).trans (congrArg some (arr_q (fun j hj => by rcases (show j = 0 ∨ j = 1 ∨ j = 2 ∨ j = 3 by omega) with rfl | rfl | rfl | rfl <;> rfl)))
    | 8, _ => exact hP 8 _ rfl
    | 9, _ => exact hP 9 _ rfl
    | 10, _ => exact hP 10 _ rfl
    | 11, _ => exact hP 11 _ rfl
    | 12, _ => exact hP 12 _ rfl
    | 13, _ => exact hP 13 _ rfl
    | 14, _ => exact hP 14 _ rfl
    | 15, _ => exact hP 39 _ rfl
    | 16, _ => exact hP 40 _ rfl
    | 17, _ => exact hP 41 _ rfl
    | 18, _ => exact hP 42 _ rfl
    | 19, _ => exact hP 43 _ rfl
    | 20, _ => exact (hP 44 _ rfl).trans (congrArg some (arr_q (fun j hj => by rcases (show j = 0 ∨ j = 1 ∨ j = 2 ∨ j = 3 ∨ j = 4 by omega) with rfl | rfl | rfl | rfl | rfl <;> rfl)))
    | 21, _ => exact hP 45 _ rfl
    | 22, _ => exact hP 46 _ rfl
    | 23, _ => exact hP 87 _ rfl
    | 24, _ => exact hP 88 _ rfl
    | 25, _ => exact hP 89 _ rfl
    | 26, _ => exact hP 90 _ rfl
    | 27, _ => exact hP 91 _ rfl
    | 28, _ => exact hP 92 _ rfl
    | 29, _ => exact hP 93 _ rfl
    | 30, _ => exact hP 94 _ rfl
    | 31, _ => exact hP 95 _ rfl
    | 32, _ => exact hP 96 _ rfl
    | 33, _ => exact hP 97 _ rfl
    | 34, _ => exact hP 98 _ rfl
    | 35, _ => exact hP 99 _ rfl
    | 36, _ => exact hP 100 _ rfl
    | 37, _ => exact hP 101 _ rfl
    | 38, _ => exact hP 102 _ rfl
    | 39, _ => exact hP 103 _ rfl
    | 40, _ => exact hP 104 _ rfl
    | 41, _ => exact hP 105 _ rfl
    | 42, _ => exact hP 106 _ rfl
    | 43, _ => exact hP 107 _ rfl
    | 44, _ => exact hP 108 _ rfl
    | 45, _ => exact hP 109 _ rfl
    | 46, _ => exact hP 110 _ rfl
    | 47, _ => exact hP 111 _ rfl
    | 48, _ => exact hP 112 _ rfl
    | 49, _ => exact hP 113 _ rfl
    | 50, _ => exact hP 114 _ rfl
    | 51, _ => exact hP 115 _ rfl
    | 52, _ => exact hP 116 _ rfl
    | 53, _ => exact hP 117 _ rfl
    | 54, _ => exact hP 118 _ rfl
    | 55, _ => exact hP 119 _ rfl
    | 56, _ => exact hP 120 _ rfl
    | 57, _ => exact hP 121 _ rfl
    | 58, _ => exact hP 122 _ rfl
    | 59, _ => exact hP 15 _ rfl
    | 60, _ => exact hP 16 _ rfl
    | 61, _ => exact hP 17 _ rfl
    | 62, _ => exact hP 18 _ rfl
    | 63, _ => exact hP 19 _ rfl
    | 64, _ => exact hP 20 _ rfl
    | 65, _ => exact hP 21 _ rfl
    | 66, _ => exact hP 22 _ rfl
    | 67, _ => exact hP 23 _ rfl
    | 68, _ => exact hP 24 _ rfl
    | 69, _ => exact hP 25 _ rfl
    | 70, _ => exact hP 26 _ rfl
    | 71, _ => exact hP 27 _ rfl
    | 72, _ => exact hP 28 _ rfl
    | 73, _ => exact hP 29 _ rfl
    | 74, _ => exact hP 30 _ rfl
    | 75, _ => exact hP 31 _ rfl
    | 76, _ => exact hP 32 _ rfl
    | 77, _ => exact hP 33 _ rfl
    | 78, _ => exact hP 34 _ rfl
    | 79, _ => exact hP 35 _ rfl
    | 80, _ => exact hP 36 _ rfl
    | 81, _ => exact hP 37 _ rfl
    | 82, _ => exact hP 38 _ rfl
    | 83, _ => exact hP 47 _ rfl
    | 84, _ => exact hP 48 _ rfl
    | 85, _ => exact hP 49 _ rfl
    | 86, _ => exact hP 50 _ rfl
    | 87, _ => exact hP 51 _ rfl
    | 88, _ => exact hP 52 _ rfl
    | 89, _ => exact hP 53 _ rfl
    | 90, _ => exact hP 54 _ rfl
    | 91, _ => exact hP 55 _ rfl
    | 92, _ => exact hP 56 _ rfl
    | 93, _ => exact hP 57 _ rfl
    | 94, _ => exact hP 58 _ rfl
    | 95, _ => exact hP 59 _ rfl
    | 96, _ => exact hP 60 _ rfl
    | 97, _ => exact hP 61 _ rfl
    | 98, _ => exact hP 62 _ rfl
    | 99, _ => exact hP 63 _ rfl
    | 100, _ => exact hP 64 _ rfl
    | 101, _ => exact hP 65 _ rfl
    | 102, _ => exact hP 66 _ rfl
    | 103, _ => exact hP 67 _ rfl
    | 104, _ => exact hP 68 _ rfl
    | 105, _ => exact hP 69 _ rfl
    | 106, _ => exact hP 70 _ rfl
    | 107, _ => exact hP 71 _ rfl
    | 108, _ => exact hP 72 _ rfl
    | 109, _ => exact hP 73 _ rfl
    | 110, _ => exact hP 74 _ rfl
    | 111, _ => exact hP 75 _ rfl
    | 112, _ => exact hP 76 _ rfl
    | 113, _ => exact hP 77 _ rfl
    | 114, _ => exact hP 78 _ rfl
    | 115, _ => exact hP 79 _ rfl
    | 116, _ => exact hP 80 _ rfl
    | 117, _ => exact hP 81 _ rfl
    | 118, _ => exact hP 82 _ rfl
    | 119, _ => exact hP 83 _ rfl
    | 120, _ => exact hP 84 _ rfl
    | 121, _ => exact hP 85 _ rfl
    | 122, _ => exact hP 86 _ rfl
    | k + 123, h => exact absurd h (by omega)
  · intro i hi
    match i, hi with
    | 0, _ => exact ⟨0, _, rfl, rfl⟩
    | 1, _ => exact ⟨1, _, rfl, rfl⟩
    | 2, _ => exact ⟨2, _, rfl, rfl⟩
    | 3, _ => exact ⟨3, _, rfl, rfl⟩
    | 4, _ => exact ⟨4, _, rfl, rfl⟩
    | 5, _ => exact ⟨5, _, rfl, rfl⟩
    | 6, _ => exact ⟨6, _, rfl, rfl⟩
    | 7, _ => exact ⟨7, _, rfl, rfl⟩
    | 8, _ => exact ⟨8, _, rfl, rfl⟩
    | 9, _ => exact ⟨9, _, rfl, rfl⟩
    | 10, _ => exact ⟨10, _, rfl, rfl⟩
    | 11, _ => exact ⟨11, _, rfl, rfl⟩
    | 12, _ => exact ⟨12, _, rfl, rfl⟩
    | 13, _ => exact ⟨13, _, rfl, rfl⟩
    | 14, _ => exact ⟨14, _, rfl, rfl⟩
    | 15, _ => exact ⟨39, _, rfl, rfl⟩
    | 16, _ => exact ⟨40, _, rfl, rfl⟩
    | 17, _ => exact ⟨41, _, rfl, rfl⟩
    | 18, _ => exact ⟨42, _, rfl, rfl⟩
    | 19, _ => exact ⟨43, _, rfl, rfl⟩
    | 20, _ => exact ⟨44, _, rfl, rfl⟩
    | 21, _ => exact ⟨45, _, rfl, rfl⟩
    | 22, _ => exact ⟨46, _, rfl, rfl⟩
    | 23, _ => exact ⟨87, _, rfl, rfl⟩
    | 24, _ => exact ⟨88, _, rfl, rfl⟩
    | 25, _ => exact ⟨89, _, rfl, rfl⟩
    | 26, _ => exact ⟨90, _, rfl, rfl⟩
    | 27, _ => exact ⟨91, _, rfl, rfl⟩
    | 28, _ => exact ⟨92, _, rfl, rfl⟩
    | 29, _ => exact ⟨93, _, rfl, rfl⟩
    | 30, _ => exact ⟨94, _, rfl, rfl⟩
    | 31, _ => exact ⟨95, _, rfl, rfl⟩
    | 32, _ => exact ⟨96, _, rfl, rfl⟩
    | 33, _ => exact ⟨97, _, rfl, rfl⟩
    | 34, _ => exact ⟨98, _, rfl, rfl⟩
    | 35, _ => exact ⟨99, _, rfl, rfl⟩
    | 36, _ => exact ⟨100, _, rfl, rfl⟩
    | 37, _ => exact ⟨101, _, rfl, rfl⟩
    | 38, _ => exact ⟨102, _, rfl, rfl⟩
    | 39, _ => exact ⟨103, _, rfl, rfl⟩
    | 40, _ => exact ⟨104, _, rfl, rfl⟩
    | 41, _ => exact ⟨105, _, rfl, rfl⟩
    | 42, _ => exact ⟨106, _, rfl, rfl⟩
    | 43, _ => exact ⟨107, _, rfl, rfl⟩
    | 44, _ => exact ⟨108, _, rfl, rfl⟩
    | 45, _ => exact ⟨109, _, rfl, rfl⟩
    | 46, _ => exact ⟨110, _, rfl, rfl⟩
    | 47, _ => exact ⟨111, _, rfl, rfl⟩
    | 48, _ => exact ⟨112, _, rfl, rfl⟩
    | 49, _ => exact ⟨113, _, rfl, rfl⟩
    | 50, _ => exact ⟨114, _, rfl, rfl⟩
    | 51, _ => exact ⟨115, _, rfl, rfl⟩
    | 52, _ => exact ⟨116, _, rfl, rfl⟩
    | 53, _ => exact ⟨117, _, rfl, rfl⟩
    | 54, _ => exact ⟨118, _, rfl, rfl⟩
    | 55, _ => exact ⟨119, _, rfl, rfl⟩
    | 56, _ => exact ⟨120, _, rfl, rfl⟩
    | 57, _ => exact ⟨121, _, rfl, rfl⟩
    | 58, _ => exact ⟨122, _, rfl, rfl⟩
    | 59, _ => exact ⟨15, _, rfl, rfl⟩
    | 60, _ => exact ⟨16, _, rfl, rfl⟩
    | 61, _ => exact ⟨17, _, rfl, rfl⟩
    | 62, _ => exact ⟨18, _, rfl, rfl⟩
    | 63, _ => exact ⟨19, _, rfl, rfl⟩
    | 64, _ => exact ⟨20, _, rfl, rfl⟩
    | 65, _ => exact ⟨21, _, rfl, rfl⟩
    | 66, _ => exact ⟨22, _, rfl, rfl⟩
    | 67, _ => exact ⟨23, _, rfl, rfl⟩
    | 68, _ => exact ⟨24, _, rfl, rfl⟩
    | 69, _ => exact ⟨25, _, rfl, rfl⟩
    | 70, _ => exact ⟨26, _, rfl, rfl⟩
    | 71, _ => exact ⟨27, _, rfl, rfl⟩
    | 72, _ => exact ⟨28, _, rfl, rfl⟩
    | 73, _ => exact ⟨29, _, rfl, rfl⟩
    | 74, _ => exact ⟨30, _, rfl, rfl⟩
    | 75, _ => exact ⟨31, _, rfl, rfl⟩
    | 76, _ => exact ⟨32, _, rfl, rfl⟩
    | 77, _ => exact ⟨33, _, rfl, rfl⟩
    | 78, _ => exact ⟨34, _, rfl, rfl⟩
    | 79, _ => exact ⟨35, _, rfl, rfl⟩
    | 80, _ => exact ⟨36, _, rfl, rfl⟩
    | 81, _ => exact ⟨37, _, rfl, rfl⟩
    | 82, _ => exact ⟨38, _, rfl, rfl⟩
    | 83, _ => exact ⟨47, _, rfl, rfl⟩
    | 84, _ => exact ⟨48, _, rfl, rfl⟩
    | 85, _ => exact ⟨49, _, rfl, rfl⟩
    | 86, _ => exact ⟨50, _, rfl, rfl⟩
    | 87, _ => exact ⟨51, _, rfl, rfl⟩
    | 88, _ => exact ⟨52, _, rfl, rfl⟩
    | 89, _ => exact ⟨53, _, rfl, rfl⟩
    | 90, _ => exact ⟨54, _, rfl, rfl⟩
    | 91, _ => exact ⟨55, _, rfl, rfl⟩
    | 92, _ => exact ⟨56, _, rfl, rfl⟩
    | 93, _ => exact ⟨57, _, rfl, rfl⟩
    | 94, _ => exact ⟨58, _, rfl, rfl⟩
    | 95, _ => exact ⟨59, _, rfl, rfl⟩
    | 96, _ => exact ⟨60, _, rfl, rfl⟩
    | 97, _ => exact ⟨61, _, rfl, rfl⟩
    | 98, _ => exact ⟨62, _, rfl, rfl⟩
    | 99, _ => exact ⟨63, _, rfl, rfl⟩
    | 100, _ => exact ⟨64, _, rfl, rfl⟩
    | 101, _ => exact ⟨65, _, rfl, rfl⟩
    | 102, _ => exact ⟨66, _, rfl, rfl⟩
    | 103, _ => exact ⟨67, _, rfl, rfl⟩
    | 104, _ => exact ⟨68, _, rfl, rfl⟩
    | 105, _ => exact ⟨69, _, rfl, rfl⟩
    | 106, _ => exact ⟨70, _, rfl, rfl⟩
    | 107, _ => exact ⟨71, _, rfl, rfl⟩
    | 108, _ => exact ⟨72, _, rfl, rfl⟩
    | 109, _ => exact ⟨73, _, rfl, rfl⟩
    | 110, _ => exact ⟨74, _, rfl, rfl⟩
    | 111, _ => exact ⟨75, _, rfl, rfl⟩
    | 112, _ => exact ⟨76, _, rfl, rfl⟩
    | 113, _ => exact ⟨77, _, rfl, rfl⟩
    | 114, _ => exact ⟨78, _, rfl, rfl⟩
    | 115, _ => exact ⟨79, _, rfl, rfl⟩
    | 116, _ => exact ⟨80, _, rfl, rfl⟩
    | 117, _ => exact ⟨81, _, rfl, rfl⟩
    | 118, _ => exact ⟨82, _, rfl, rfl⟩
    | 119, _ => exact ⟨83, _, rfl, rfl⟩
    | 120, _ => exact ⟨84, _, rfl, rfl⟩
    | 121, _ => exact ⟨85, _, rfl, rfl⟩
    | 122, _ => exact ⟨86, _, rfl, rfl⟩
    | k + 123, h => exact absurd h (by omega)
theorem vk_R0 {own tx : String} {k a : Nat} {A : Array Value} {U : State} (h1 : (Cond.stringRef own k tx).before A U = true) (h2 : (Term.string own k).eval A U none [] U = some (.ref a)) : vk_R own k tx a U := vk_R.of (A := #[]) (by first | exact h1 | (simp only [Cond.before, Cond.holds, Cond.value] at h1 ⊢; exact h1)) (by first | exact h2 | (simp only [Term.eval] at h2 ⊢; exact h2))
theorem va_AO_any {C : String} {A : Array Value} {U : State} (h : (Cond.arrayOver (.object C)).before A U = true) : va_AO C U := va_AO.of (A := A) h
section AST
variable {E : Ek} {A : Nat → Prop} {x : MC} {cc : ByteArray} {nL hm mc ms k n pc : Nat} {own : String} {w : va_W} {lv : List (Nat × Value)} {st : List Value}
theorem kg_astore_n (X : Kx E x cc nL own hm mc ms) {i : Fin 4} {a v : Nat} {lv' : List (Nat × Value)} (hd : decode cc pc = .ok (.astore_n i, 1)) (hi : (i : Nat) = a) (hn : a < nL) (hc : lsto lv a = true) (hl : lset lv a (.ref v) = lv') (kk : KG E A x w k n (pc + 1) lv' st) : KG E A x w k n pc lv (.ref v :: st) := fun H locs ls hP hD hS hL => lv_astore_n X.ex X.cb hd hi hL (by rw [X.nl]; exact hn) rfl (fun ls' h => kk H locs ls' hP hD hS (hl ▸ lset_has hc h))
end AST
set_option maxHeartbeats 4000000 in
theorem start_env {s : State} {b : Nat} (hts : ∀ w ∈ lw_tbl, w.before #[Value.ref b] s = true) (hgv : (Jvm.Cond.and given_1 narrow_1).before #[Value.ref b] s = true) : ∃ (D : va_G) (cA : Nat → ClassId) (aK aV : Nat → Nat), ∀ z : Nat → Nat, gE (D, cA, z, aK, aV, s.heap.size) s ∧ Str (D, cA, z, aK, aV, s.heap.size) s s.heap := by
  have hgt : ∀ w ∈ gt, w.before #[Value.ref b] s = true := fun w hw => hts w (gt_lw hw)
  have htb : ∀ w ∈ tables_1, w.before #[Value.ref b] s = true := fun w hw => hts w (List.mem_append_right _ hw)
  have hs := flat_of_before _ hgv
  obtain ⟨c0, i0, k0⟩ := u_known (C := RX0) (T := TX0) (N := 10) (n := 10) hgt in_X0 (hgt _ sn884)
  obtain ⟨c1, i1, k1⟩ := u_known (C := RX1) (T := TX1) (N := 0) (n := 0) hgt in_X1 (hgt _ yn851)
  obtain ⟨c2, i2, k2⟩ := u_known (C := RX2) (T := TX2) (N := 0) (n := 0) hgt in_X2 (hgt _ yn855)
  obtain ⟨c3, i3, k3⟩ := u_known (C := RX3) (T := TX3) (N := 0) (n := 0) hgt in_X3 (hgt _ yn853)
  obtain ⟨c4, i4, k4⟩ := u_known (C := RX4) (T := TX4) (N := 11) (n := 11) hgt in_X4 (hgt _ sn892)
  obtain ⟨c5, i5, k5⟩ := u_known (C := RX5) (T := TX5) (N := 5) (n := 5) hgt in_X5 (hgt _ sn900)
  obtain ⟨c6, i6, k6⟩ := u_known (C := RX6) (T := TX6) (N := 11) (n := 11) hgt in_X6 (hgt _ sn889)
  obtain ⟨c7, i7, k7⟩ := u_known (C := RX7) (T := TX7) (N := 0) (n := 0) hgt in_X7 (hgt _ yn858)
  obtain ⟨c8, i8, k8⟩ := u_known (C := RX8) (T := TX8) (N := 0) (n := 0) hgt in_X8 (hgt _ yn849)
  obtain ⟨c9, i9, k9⟩ := u_known (C := RX9) (T := TX9) (N := 7) (n := 7) hgt in_X9 (hgt _ sn903)
  obtain ⟨c10, i10, k10⟩ := u_known (C := RX10) (T := TX10) (N := 4) (n := 4) hgt in_X10 (hgt _ sn897)
  obtain ⟨c11, i11, k11⟩ := u_known (C := RX11) (T := TX11) (N := 10) (n := 10) hgt in_X11 (hgt _ sn906)
  obtain ⟨c12, i12, k12⟩ := u_known (C := RX12) (T := TX12) (N := 44) (n := 44) hgt in_X12 (hgt _ sn907)
  obtain ⟨aI, kaI, coI, f1I, f2I, f3I⟩ := Cond.arrayClass_spec (hgt _ sn873)
  obtain ⟨aZ, kaZ, coZ, f1Z, f2Z, f3Z⟩ := Cond.arrayClass_spec (hgt _ sn880)
  have ovP : (Cond.arrayOver (.object RX7)).before #[Value.ref b] s = true := htb _ (tb_1 81 rfl)
  obtain ⟨coP, aP, kaP, f0P, fiP, f2P, f3P, f1P⟩ := Cond.arrayOver_spec ovP
  have ovF : (Cond.arrayOver (.object RX0)).before #[Value.ref b] s = true := htb _ (tb_2 0 rfl)
  obtain ⟨coF, aF, kaF, f0F, fiF, f2F, f3F, f1F⟩ := Cond.arrayOver_spec ovF
  obtain ⟨aK, aV, hSt, hTm⟩ := vk_Sof (args := #[Value.ref b]) (s := s) (N := 2) (tm := fun i => if i = 0 then .string "DebtRooms$Page" 78 else .string "DebtRooms$Page" 86) (len := [3, 5]) (byt := [[111, 97, 98], [112, 114, 98, 104, 100]]) (A := fun q => s.heap.size ≤ q)
    (fun i hi => by
      rcases (show i = 0 ∨ i = 1 by omega) with rfl | rfl <;> decide)
    (fun i hi => by
      rcases (show i = 0 ∨ i = 1 by omega) with rfl | rfl
      · exact hs _ (by decide +kernel)
      · exact hs _ (by decide +kernel))
    (fun i hi => by
      rcases (show i = 0 ∨ i = 1 by omega) with rfl | rfl
      · exact hs _ (by decide +kernel)
      · exact hs _ (by decide +kernel))
    (fun i hi => by
      rcases (show i = 0 ∨ i = 1 by omega) with rfl | rfl
      · exact hs _ (by decide +kernel)
      · exact hs _ (by decide +kernel))
    (fun i hi => by
      rcases (show i = 0 ∨ i = 1 by omega) with rfl | rfl
      · exact hs _ (by decide +kernel)
      · exact hs _ (by decide +kernel))
    (fun i hi j hj => by
      rcases (show i = 0 ∨ i = 1 by omega) with rfl | rfl
      · have hj : j < 3 := hj
        rcases (show j = 0 ∨ j = 1 ∨ j = 2 by omega) with rfl | rfl | rfl <;> exact hs _ (by decide +kernel)
      · have hj : j < 5 := hj
        rcases (show j = 0 ∨ j = 1 ∨ j = 2 ∨ j = 3 ∨ j = 4 by omega) with rfl | rfl | rfl | rfl | rfl <;> exact hs _ (by decide +kernel))
    (fun i j hi hj hne => by
      rcases (show i = 0 ∧ j = 1 ∨ i = 1 ∧ j = 0 by omega) with ⟨rfl, rfl⟩ | ⟨rfl, rfl⟩
      · first | exact Or.inl (hs _ (by decide +kernel)) | exact Or.inr (hs _ (by decide +kernel))
      · first | exact Or.inl (hs _ (by decide +kernel)) | exact Or.inr (hs _ (by decide +kernel)))
    (fun a h => Nat.not_le.mpr h)
  have hZ : va_Z "java/lang/String" "COMPACT_STRINGS" "Z" (.int 1) (fun q => s.heap.size ≤ q) s s.heap := va_Zof (htb _ (tb_2 145 rfl)) (htb _ (tb_1 10 rfl)) (va_eqi (hs _ (by decide +kernel))) (fun a h => Nat.not_le.mpr h)
  refine ⟨(fun k => match k with | 0 => c0 | 1 => c1 | 2 => c2 | 3 => c3 | 4 => c4 | 5 => c5 | 6 => c6 | 7 => c7 | 8 => c8 | 9 => c9 | 10 => c10 | 11 => c11 | _ => c12, fun k => match k with | 0 => i0 | 1 => i1 | 2 => i2 | 3 => i3 | 4 => i4 | 5 => i5 | 6 => i6 | 7 => i7 | 8 => i8 | 9 => i9 | 10 => i10 | 11 => i11 | _ => i12), (fun k => match k with | 0 => aI | 1 => aZ | 2 => aP | _ => aF), aK, aV, fun z => ⟨⟨⟨?_, ?_⟩, ?_, ?_, ?_, ?_, ?_, ?_⟩, hSt, hZ⟩⟩
  · intro c q hq
    match c, hq with
    | 0, hq => cases hq; exact k0
    | 1, hq => cases hq; exact k1
    | 2, hq => cases hq; exact k2
    | 3, hq => cases hq; exact k3
    | 4, hq => cases hq; exact k4
    | 5, hq => cases hq; exact k5
    | 6, hq => cases hq; exact k6
    | 7, hq => cases hq; exact k7
    | 8, hq => cases hq; exact k8
    | 9, hq => cases hq; exact k9
    | 10, hq => cases hq; exact k10
    | 11, hq => cases hq; exact k11
    | 12, hq => cases hq; exact k12
    | c + 13, hq => simp [classes] at hq
  · intro k q hk
    match k, hk with
    | 0, hk => cases hk; exact ⟨fun n z => ⟨fun k h => (by cases h), kaI, f2I, coI, f3I⟩, f1I⟩
    | 1, hk => cases hk; exact ⟨fun n z => ⟨fun k h => (by cases h), kaZ, f2Z, coZ, f3Z⟩, f1Z⟩
    | 2, hk => cases hk; exact ⟨fun n z => ⟨fun k h => (by cases h), kaP, f2P, coP, f3P⟩, ⟨kaP, coP, f2P, f3P, f0P, f1P⟩⟩
    | 3, hk => cases hk; exact ⟨fun n z => ⟨fun k h => (by cases h), kaF, f2F, coF, f3F⟩, ⟨kaF, coF, f2F, f3F, f0F, f1F⟩⟩
    | k + 4, hk => simp [gtys] at hk
  · exact fun w hw hn => va_Nw.of (isN_tab hn) (htb w hw)
  · intro q hq
    simp only [ncs, List.mem_cons, List.not_mem_nil, or_false] at hq
    rcases hq with rfl | rfl | rfl | rfl | rfl | rfl | rfl | rfl | rfl | rfl | rfl | rfl | rfl | rfl | rfl <;> exact va_Nc.of (hs _ (by decide +kernel))
  · have h9 := hTm 0 (by decide)
    exact vk_R.same (u := s) rfl (vk_R0 (htb _ (tb_2 131 rfl)) h9)
  · have h9 := hTm 1 (by decide)
    exact vk_R.same (u := s) rfl (vk_R0 (htb _ (tb_2 222 rfl)) h9)
  · exact va_AO_any ovP
  · exact va_AO_any ovF
set_option maxHeartbeats 4000000 in
/-- the law from its entry, once the pure part is known -/
theorem start_open (hpure : ∀ (L : Nat) (ys : Nat → Int32), L ≤ 320 → wp_L_law L ys M0) {p : Program} {e : Env} {s : State} {m : MethodId} {below : List Frame} {meth : Method} {c : Code} (l : Launch) {b L : Nat} {xs : Nat → Int32} (hL : L ≤ 320) (C0 : lw_At p s m meth c b L xs) : W p l e room_1 s m #[Value.ref b] below meth c s.heap [] 0 0 (lw_Z below #[Value.ref b] s) (entryFrame m ([Value.ref b] : List Value).toArray 4) := by
  obtain ⟨hx, hb, hr, hml, hown, hts, hX, hbl, hlocks, hgv⟩ := C0
  obtain ⟨D, cA, aK, aV, hEn⟩ := start_env hts hgv
  have hgt : ∀ w ∈ gt, w.before #[Value.ref b] s = true := fun w hw => hts w (gt_lw hw)
  have hl := lv_entry ([.ref b]) (n := 4) (Nat.le_of_ble_eq_true rfl)
  rw [lg_entry_eq]
  generalize hx0 : ((p, l, e, room_1, s, m, #[Value.ref b], below, meth, c, lw_Z below #[Value.ref b] s, 4, 0, 0) : MC) = x0
  have hsz : (fun q => s.heap.size ≤ q) = frE (D, cA, fun _ => 0, aK, aV, s.heap.size) := rfl
  have XK : Kx (D, cA, fun _ => 0, aK, aV, s.heap.size) x0 cL_law 4 RL 15 695040 7017128 := by
    subst hx0
    exact ⟨hx, hb, hml, rfl, hown, hgt, hlocks, ⟨by show 15 ≤ 2048; decide, by show 40 * 15 ≤ 84000; decide⟩, ⟨Nat.le_refl _, Nat.le_refl _⟩, (hEn _).1, (hEn _).2, Nat.le_refl _⟩
  have main : KG (D, cA, fun _ => 0, aK, aV, s.heap.size) (fun q => s.heap.size ≤ q) x0 [] 0 0 0 [(0, .ref b)] [] := by
    have hheap : x0.2.2.2.2.1 = s := by subst hx0; rfl
    subst hheap
    refine kg_new (ci := 11) (T := TX11) (N := 10) (fs := [.null, .null, .null, .null, .null, .null, .null, .null, .int 0, .int 0]) XK (fun _ h => h) in_X11 tyX11 tyX11_ok s908 sn906 m10 rfl (fun j hj => by rcases (show j = 0 ∨ j = 1 ∨ j = 2 ∨ j = 3 ∨ j = 4 ∨ j = 5 ∨ j = 6 ∨ j = 7 ∨ j = 8 ∨ j = 9 by omega) with rfl | rfl | rfl | rfl | rfl | rfl | rfl | rfl | rfl | rfl <;> rfl) (Nat.le_of_ble_eq_true rfl) (Nat.le_of_ble_eq_true rfl) dL_law_0 (fun a0 => ?_)
    refine kg_dup XK dL_law_3 rfl ?_
    refine kg_init (k := 1) (n := 10) (st := [.ref a0]) (wr := []) (As := []) XK (fun _ h => h) (fun _ h => h) (c_X11 _ _ a0) ck_X11_init s909 (by decide) rfl dL_law_4 (Nat.le_of_ble_eq_true rfl) (Nat.le_of_ble_eq_true rfl) (Nat.le_of_ble_eq_true rfl) (fun u hu => ?_)
    refine kg_astore_n (lv' := [(0, .ref b), (1, .ref a0)]) XK dL_law_7 rfl (Nat.le_of_ble_eq_true rfl) rfl rfl ?_
    refine kg_new (ci := 12) (T := TX12) (N := 44) (fs := [.null, .int 0, .int 0, .int 0, .int 0, .int 0, .int 0, .int 0, .int 0, .int 0, .null, .null, .null, .null, .null, .null, .null, .null, .null, .null, .null, .null, .null, .null, .null, .null, .null, .null, .null, .null, .null, .int 0, .null, .int 0, .int 0, .int 0, .int 0, .null, .null, .null, .null, .null, .null, .long 0]) XK (fun _ h => h) in_X12 tyX12 tyX12_ok s910 sn907 m499 rfl (fun j hj => by rcases (show j = 0 ∨ j = 1 ∨ j = 2 ∨ j = 3 ∨ j = 4 ∨ j = 5 ∨ j = 6 ∨ j = 7 ∨ j = 8 ∨ j = 9 ∨ j = 10 ∨ j = 11 ∨ j = 12 ∨ j = 13 ∨ j = 14 ∨ j = 15 ∨ j = 16 ∨ j = 17 ∨ j = 18 ∨ j = 19 ∨ j = 20 ∨ j = 21 ∨ j = 22 ∨ j = 23 ∨ j = 24 ∨ j = 25 ∨ j = 26 ∨ j = 27 ∨ j = 28 ∨ j = 29 ∨ j = 30 ∨ j = 31 ∨ j = 32 ∨ j = 33 ∨ j = 34 ∨ j = 35 ∨ j = 36 ∨ j = 37 ∨ j = 38 ∨ j = 39 ∨ j = 40 ∨ j = 41 ∨ j = 42 ∨ j = 43 by omega) with rfl | rfl | rfl | rfl | rfl | rfl | rfl | rfl | rfl | rfl | rfl | rfl | rfl | rfl | rfl | rfl | rfl | rfl | rfl | rfl | rfl | rfl | rfl | rfl | rfl | rfl | rfl | rfl | rfl | rfl | rfl | rfl | rfl | rfl | rfl | rfl | rfl | rfl | rfl | rfl | rfl | rfl | rfl | rfl <;> rfl) (Nat.le_of_ble_eq_true rfl) (Nat.le_of_ble_eq_true rfl) dL_law_8 (fun am => ?_)
    refine kg_dup XK dL_law_11 rfl ?_
    refine kg_init (k := 94) (n := 561) (st := [.ref am]) (wr := [] ++ u) (As := []) XK (fun _ h => h) (fun _ h => h) (c_X12 _ _ am) ck_X12_init s911 (by decide) rfl dL_law_12 (Nat.le_of_ble_eq_true rfl) (Nat.le_of_ble_eq_true rfl) (Nat.le_of_ble_eq_true rfl) (fun v hv => ?_)
    refine kg_astore_n (lv' := [(0, .ref b), (1, .ref a0), (2, .ref am)]) XK dL_law_15 rfl (Nat.le_of_ble_eq_true rfl) rfl rfl ?_
    intro H locs ls hP hD hS hLs
    obtain ⟨z, hz0, hz29, hPz, hinj, hAz⟩ := pack (E0 := (D, cA, fun _ => 0, aK, aV, _)) hu hv hP hD
    have X0 : LX (D, cA, z, aK, aV, x0.2.2.2.2.1.heap.size) (xkz x0 123 761) b L _ := ⟨⟨XK.ex, XK.cb, XK.ml, XK.nl, XK.ow, XK.hts, XK.lk, XK.rm, ⟨Nat.le_trans (show 123 ≤ 695040 by decide) XK.kz.1, Nat.le_trans (show 761 ≤ 7017128 by decide) XK.kz.2⟩, (hEn z).1, ⟨hinj, hAz⟩, (hEn z).2, Nat.le_refl _⟩, hX, hbl, rfl, by rw [← hx0]; rfl, by rw [← hx0]; rfl, by rw [← hx0]; rfl, by rw [← hx0]; exact hr, by show 761 ≤ _; omega, hL⟩
    have hG := k_L_law X0 (Same.rf _) X0.1.ap (k1 := 123) (by omega) (hpure L _ hL)
    have hG2 : G (D, cA, z, aK, aV, x0.2.2.2.2.1.heap.size) (xkz x0 123 761) M0 16 [(0, .ref b), (1, .ref (ad (D, cA, z, aK, aV, x0.2.2.2.2.1.heap.size) 0)), (2, .ref (ad (D, cA, z, aK, aV, x0.2.2.2.2.1.heap.size) 29))] [] := by
      refine g_iconst (v := 0) X0.1 dL_law_16 (by decide) ?_
      refine g_istore_n (lv' := [(0, .ref b), (1, .ref (ad (D, cA, z, aK, aV, x0.2.2.2.2.1.heap.size) 0)), (2, .ref (ad (D, cA, z, aK, aV, x0.2.2.2.2.1.heap.size) 29)), (3, .int 0)]) X0.1 dL_law_17 rfl (Nat.le_of_ble_eq_true rfl) rfl rfl ?_
      exact hG
    refine hG2 H locs ls hPz hS ?_
    show lv_has ls _ [(0, .ref b), (1, .ref (z 0)), (2, .ref (z 29))]
    rw [hz0, hz29]
    exact hLs
  subst hx0
  exact main s.heap [] _ (fun k q h => by simp at h) ⟨fun i j p q h => by simp at h, fun k q h => by simp at h⟩ va_S.rf hl
