theorem h883 : Cond.code yX6_readHouse cX6_readHouse 4 none ∈ gt := gt_t (tb_2 235 rfl) rfl
theorem h884 : Cond.code yX11_house cX11_house 1 (some .int) ∈ gt := gt_t (tb_2 231 rfl) rfl
theorem h885 : Cond.methodLinkNest RX11 83 yX6_readHouse "DebtRooms" ∈ tables_1 := tb_2 232 rfl
theorem h886 : Cond.instanceMethod yX6_readHouse ∈ gt := gt_t (tb_2 234 rfl) rfl
theorem h887 : Cond.selects RX6 yX6_readHouse yX6_readHouse ∈ gt := gt_s (pr_s (q := (yX6_readHouse, 11)) (List.mem_of_getElem? (i := 11) rfl)) rfl
theorem h865 : Cond.fieldLinkNest RX6 95 "DebtRooms$House" "rooms" "I" "DebtRooms" ∈ tables_1 := tb_1 89 rfl
theorem h866 : Cond.fieldLinkNest RX6 98 "DebtRooms$House" "doors" "I" "DebtRooms" ∈ tables_1 := tb_1 94 rfl
theorem h867 : Cond.fieldLinkNest RX6 99 "DebtRooms$House" "people" "I" "DebtRooms" ∈ tables_1 := tb_1 98 rfl
theorem h868 : Cond.fieldLinkNest RX6 100 "DebtRooms$House" "debts" "I" "DebtRooms" ∈ tables_1 := tb_1 101 rfl
theorem h869 : Cond.fieldLinkNest RX6 101 "DebtRooms$House" "oneEnd" "[I" "DebtRooms" ∈ tables_1 := tb_1 106 rfl
theorem h870 : Cond.fieldLinkNest RX6 107 "DebtRooms$House" "otherEnd" "[I" "DebtRooms" ∈ tables_1 := tb_1 110 rfl
theorem h871 : Cond.fieldLinkNest RX6 110 "DebtRooms$House" "lock" "[I" "DebtRooms" ∈ tables_1 := tb_1 114 rfl
theorem h872 : Cond.methodLink RX6 113 yX6_placeIn ∈ gt := gt_t (tb_3 0 rfl) rfl
theorem h873 : Cond.instanceMethod yX6_placeIn ∈ gt := gt_t (tb_3 2 rfl) rfl
theorem h874 : Cond.selects RX6 yX6_placeIn yX6_placeIn ∈ gt := gt_s (pr_s (q := (yX6_placeIn, 11)) (List.mem_of_getElem? (i := 13) rfl)) rfl
theorem h875 : Cond.fieldLinkNest RX6 117 "DebtRooms$House" "kinds" "[LDebtRooms$Person;" "DebtRooms" ∈ tables_1 := tb_1 118 rfl
theorem h876 : Cond.fieldLinkNest RX6 128 "DebtRooms$House" "debtor" "[I" "DebtRooms" ∈ tables_1 := tb_1 123 rfl
theorem h877 : Cond.fieldLinkNest RX6 131 "DebtRooms$House" "creditor" "[I" "DebtRooms" ∈ tables_1 := tb_1 128 rfl
theorem h878 : Cond.fieldLinkNest RX6 134 "DebtRooms$House" "debtRoom" "[I" "DebtRooms" ∈ tables_1 := tb_1 133 rfl
theorem h879 : Cond.fieldLinkNest RX11 80 "DebtRooms$Page" "isWhole" "Z" "DebtRooms" ∈ tables_1 := tb_1 42 rfl
theorem h880 : Cond.methodLinkNest RX11 86 yX6_readAffairs "DebtRooms" ∈ tables_1 := tb_3 43 rfl
theorem h881 : Cond.instanceMethod yX6_readAffairs ∈ gt := gt_t (tb_3 45 rfl) rfl
theorem h882 : Cond.selects RX6 yX6_readAffairs yX6_readAffairs ∈ gt := gt_s (pr_s (q := (yX6_readAffairs, 11)) (List.mem_of_getElem? (i := 16) rfl)) rfl
theorem dX6_readHouse_0 : decode cX6_readHouse 0 = .ok (.aload_n 1, 1) := by decide +kernel
theorem dX6_readHouse_1 : decode cX6_readHouse 1 = .ok (.aload_n 0, 1) := by decide +kernel
theorem dX6_readHouse_2 : decode cX6_readHouse 2 = .ok (.getfield 28, 3) := by decide +kernel
theorem dX6_readHouse_5 : decode cX6_readHouse 5 = .ok (.putfield 95, 3) := by decide +kernel
theorem dX6_readHouse_8 : decode cX6_readHouse 8 = .ok (.aload_n 1, 1) := by decide +kernel
theorem dX6_readHouse_9 : decode cX6_readHouse 9 = .ok (.aload_n 0, 1) := by decide +kernel
theorem dX6_readHouse_10 : decode cX6_readHouse 10 = .ok (.getfield 31, 3) := by decide +kernel
theorem dX6_readHouse_13 : decode cX6_readHouse 13 = .ok (.putfield 98, 3) := by decide +kernel
theorem dX6_readHouse_16 : decode cX6_readHouse 16 = .ok (.aload_n 1, 1) := by decide +kernel
theorem dX6_readHouse_17 : decode cX6_readHouse 17 = .ok (.aload_n 0, 1) := by decide +kernel
theorem dX6_readHouse_18 : decode cX6_readHouse 18 = .ok (.getfield 34, 3) := by decide +kernel
theorem dX6_readHouse_21 : decode cX6_readHouse 21 = .ok (.putfield 99, 3) := by decide +kernel
theorem dX6_readHouse_24 : decode cX6_readHouse 24 = .ok (.aload_n 1, 1) := by decide +kernel
theorem dX6_readHouse_25 : decode cX6_readHouse 25 = .ok (.aload_n 0, 1) := by decide +kernel
theorem dX6_readHouse_26 : decode cX6_readHouse 26 = .ok (.getfield 37, 3) := by decide +kernel
theorem dX6_readHouse_29 : decode cX6_readHouse 29 = .ok (.putfield 100, 3) := by decide +kernel
theorem dX6_readHouse_32 : decode cX6_readHouse 32 = .ok (.iconst 0, 1) := by decide +kernel
theorem dX6_readHouse_33 : decode cX6_readHouse 33 = .ok (.istore_n 2, 1) := by decide +kernel
theorem dX6_readHouse_34 : decode cX6_readHouse 34 = .ok (.iload_n 2, 1) := by decide +kernel
theorem dX6_readHouse_35 : decode cX6_readHouse 35 = .ok (.aload_n 0, 1) := by decide +kernel
theorem dX6_readHouse_36 : decode cX6_readHouse 36 = .ok (.getfield 31, 3) := by decide +kernel
theorem dX6_readHouse_39 : decode cX6_readHouse 39 = .ok (.if_icmp .ge 56, 3) := by decide +kernel
theorem dX6_readHouse_42 : decode cX6_readHouse 42 = .ok (.iconst 2, 1) := by decide +kernel
theorem dX6_readHouse_43 : decode cX6_readHouse 43 = .ok (.iconst 4, 1) := by decide +kernel
theorem dX6_readHouse_44 : decode cX6_readHouse 44 = .ok (.iload_n 2, 1) := by decide +kernel
theorem dX6_readHouse_45 : decode cX6_readHouse 45 = .ok (.imul, 1) := by decide +kernel
theorem dX6_readHouse_46 : decode cX6_readHouse 46 = .ok (.iadd, 1) := by decide +kernel
theorem dX6_readHouse_47 : decode cX6_readHouse 47 = .ok (.istore_n 3, 1) := by decide +kernel
theorem dX6_readHouse_48 : decode cX6_readHouse 48 = .ok (.aload_n 1, 1) := by decide +kernel
theorem dX6_readHouse_49 : decode cX6_readHouse 49 = .ok (.getfield 101, 3) := by decide +kernel
theorem dX6_readHouse_52 : decode cX6_readHouse 52 = .ok (.iload_n 2, 1) := by decide +kernel
theorem dX6_readHouse_53 : decode cX6_readHouse 53 = .ok (.aload_n 0, 1) := by decide +kernel
theorem dX6_readHouse_54 : decode cX6_readHouse 54 = .ok (.iload_n 3, 1) := by decide +kernel
theorem dX6_readHouse_55 : decode cX6_readHouse 55 = .ok (.invokevirtual 104, 3) := by decide +kernel
theorem dX6_readHouse_58 : decode cX6_readHouse 58 = .ok (.iastore, 1) := by decide +kernel
theorem dX6_readHouse_59 : decode cX6_readHouse 59 = .ok (.aload_n 1, 1) := by decide +kernel
theorem dX6_readHouse_60 : decode cX6_readHouse 60 = .ok (.getfield 107, 3) := by decide +kernel
theorem dX6_readHouse_63 : decode cX6_readHouse 63 = .ok (.iload_n 2, 1) := by decide +kernel
theorem dX6_readHouse_64 : decode cX6_readHouse 64 = .ok (.aload_n 0, 1) := by decide +kernel
theorem dX6_readHouse_65 : decode cX6_readHouse 65 = .ok (.iload_n 3, 1) := by decide +kernel
theorem dX6_readHouse_66 : decode cX6_readHouse 66 = .ok (.iconst 1, 1) := by decide +kernel
theorem dX6_readHouse_67 : decode cX6_readHouse 67 = .ok (.iadd, 1) := by decide +kernel
theorem dX6_readHouse_68 : decode cX6_readHouse 68 = .ok (.invokevirtual 104, 3) := by decide +kernel
theorem dX6_readHouse_71 : decode cX6_readHouse 71 = .ok (.iastore, 1) := by decide +kernel
theorem dX6_readHouse_72 : decode cX6_readHouse 72 = .ok (.aload_n 1, 1) := by decide +kernel
theorem dX6_readHouse_73 : decode cX6_readHouse 73 = .ok (.getfield 110, 3) := by decide +kernel
theorem dX6_readHouse_76 : decode cX6_readHouse 76 = .ok (.iload_n 2, 1) := by decide +kernel
theorem dX6_readHouse_77 : decode cX6_readHouse 77 = .ok (.aload_n 0, 1) := by decide +kernel
theorem dX6_readHouse_78 : decode cX6_readHouse 78 = .ok (.ldc 78, 2) := by decide +kernel
theorem dX6_readHouse_80 : decode cX6_readHouse 80 = .ok (.iload_n 3, 1) := by decide +kernel
theorem dX6_readHouse_81 : decode cX6_readHouse 81 = .ok (.iconst 2, 1) := by decide +kernel
theorem dX6_readHouse_82 : decode cX6_readHouse 82 = .ok (.iadd, 1) := by decide +kernel
theorem dX6_readHouse_83 : decode cX6_readHouse 83 = .ok (.invokevirtual 113, 3) := by decide +kernel
theorem dX6_readHouse_86 : decode cX6_readHouse 86 = .ok (.iconst 1, 1) := by decide +kernel
theorem dX6_readHouse_87 : decode cX6_readHouse 87 = .ok (.isub, 1) := by decide +kernel
theorem dX6_readHouse_88 : decode cX6_readHouse 88 = .ok (.iastore, 1) := by decide +kernel
theorem dX6_readHouse_89 : decode cX6_readHouse 89 = .ok (.iinc 2 1, 3) := by decide +kernel
theorem dX6_readHouse_92 : decode cX6_readHouse 92 = .ok (.goto (-58), 3) := by decide +kernel
theorem dX6_readHouse_95 : decode cX6_readHouse 95 = .ok (.iconst 0, 1) := by decide +kernel
theorem dX6_readHouse_96 : decode cX6_readHouse 96 = .ok (.istore_n 2, 1) := by decide +kernel
theorem dX6_readHouse_97 : decode cX6_readHouse 97 = .ok (.iload_n 2, 1) := by decide +kernel
theorem dX6_readHouse_98 : decode cX6_readHouse 98 = .ok (.aload_n 0, 1) := by decide +kernel
theorem dX6_readHouse_99 : decode cX6_readHouse 99 = .ok (.getfield 34, 3) := by decide +kernel
theorem dX6_readHouse_102 : decode cX6_readHouse 102 = .ok (.if_icmp .ge 32, 3) := by decide +kernel
theorem dX6_readHouse_105 : decode cX6_readHouse 105 = .ok (.aload_n 1, 1) := by decide +kernel
theorem dX6_readHouse_106 : decode cX6_readHouse 106 = .ok (.getfield 117, 3) := by decide +kernel
theorem dX6_readHouse_109 : decode cX6_readHouse 109 = .ok (.iload_n 2, 1) := by decide +kernel
theorem dX6_readHouse_110 : decode cX6_readHouse 110 = .ok (.aload_n 0, 1) := by decide +kernel
theorem dX6_readHouse_111 : decode cX6_readHouse 111 = .ok (.ldc 86, 2) := by decide +kernel
theorem dX6_readHouse_113 : decode cX6_readHouse 113 = .ok (.aload_n 0, 1) := by decide +kernel
theorem dX6_readHouse_114 : decode cX6_readHouse 114 = .ok (.invokevirtual 91, 3) := by decide +kernel
theorem dX6_readHouse_117 : decode cX6_readHouse 117 = .ok (.iconst 4, 1) := by decide +kernel
theorem dX6_readHouse_118 : decode cX6_readHouse 118 = .ok (.iload_n 2, 1) := by decide +kernel
theorem dX6_readHouse_119 : decode cX6_readHouse 119 = .ok (.imul, 1) := by decide +kernel
theorem dX6_readHouse_120 : decode cX6_readHouse 120 = .ok (.iadd, 1) := by decide +kernel
theorem dX6_readHouse_121 : decode cX6_readHouse 121 = .ok (.invokevirtual 113, 3) := by decide +kernel
theorem dX6_readHouse_124 : decode cX6_readHouse 124 = .ok (.invokestatic 121, 3) := by decide +kernel
theorem dX6_readHouse_127 : decode cX6_readHouse 127 = .ok (.aastore, 1) := by decide +kernel
theorem dX6_readHouse_128 : decode cX6_readHouse 128 = .ok (.iinc 2 1, 3) := by decide +kernel
theorem dX6_readHouse_131 : decode cX6_readHouse 131 = .ok (.goto (-34), 3) := by decide +kernel
theorem dX6_readHouse_134 : decode cX6_readHouse 134 = .ok (.iconst 0, 1) := by decide +kernel
theorem dX6_readHouse_135 : decode cX6_readHouse 135 = .ok (.istore_n 2, 1) := by decide +kernel
theorem dX6_readHouse_136 : decode cX6_readHouse 136 = .ok (.iload_n 2, 1) := by decide +kernel
theorem dX6_readHouse_137 : decode cX6_readHouse 137 = .ok (.aload_n 0, 1) := by decide +kernel
theorem dX6_readHouse_138 : decode cX6_readHouse 138 = .ok (.getfield 37, 3) := by decide +kernel
theorem dX6_readHouse_141 : decode cX6_readHouse 141 = .ok (.if_icmp .ge 55, 3) := by decide +kernel
theorem dX6_readHouse_144 : decode cX6_readHouse 144 = .ok (.aload_n 0, 1) := by decide +kernel
theorem dX6_readHouse_145 : decode cX6_readHouse 145 = .ok (.invokevirtual 125, 3) := by decide +kernel
theorem dX6_readHouse_148 : decode cX6_readHouse 148 = .ok (.iconst 5, 1) := by decide +kernel
theorem dX6_readHouse_149 : decode cX6_readHouse 149 = .ok (.iload_n 2, 1) := by decide +kernel
theorem dX6_readHouse_150 : decode cX6_readHouse 150 = .ok (.imul, 1) := by decide +kernel
theorem dX6_readHouse_151 : decode cX6_readHouse 151 = .ok (.iadd, 1) := by decide +kernel
theorem dX6_readHouse_152 : decode cX6_readHouse 152 = .ok (.istore_n 3, 1) := by decide +kernel
theorem dX6_readHouse_153 : decode cX6_readHouse 153 = .ok (.aload_n 1, 1) := by decide +kernel
theorem dX6_readHouse_154 : decode cX6_readHouse 154 = .ok (.getfield 128, 3) := by decide +kernel
theorem dX6_readHouse_157 : decode cX6_readHouse 157 = .ok (.iload_n 2, 1) := by decide +kernel
theorem dX6_readHouse_158 : decode cX6_readHouse 158 = .ok (.aload_n 0, 1) := by decide +kernel
theorem dX6_readHouse_159 : decode cX6_readHouse 159 = .ok (.iload_n 3, 1) := by decide +kernel
theorem dX6_readHouse_160 : decode cX6_readHouse 160 = .ok (.invokevirtual 104, 3) := by decide +kernel
theorem dX6_readHouse_163 : decode cX6_readHouse 163 = .ok (.iastore, 1) := by decide +kernel
theorem dX6_readHouse_164 : decode cX6_readHouse 164 = .ok (.aload_n 1, 1) := by decide +kernel
theorem dX6_readHouse_165 : decode cX6_readHouse 165 = .ok (.getfield 131, 3) := by decide +kernel
theorem dX6_readHouse_168 : decode cX6_readHouse 168 = .ok (.iload_n 2, 1) := by decide +kernel
theorem dX6_readHouse_169 : decode cX6_readHouse 169 = .ok (.aload_n 0, 1) := by decide +kernel
theorem dX6_readHouse_170 : decode cX6_readHouse 170 = .ok (.iload_n 3, 1) := by decide +kernel
theorem dX6_readHouse_171 : decode cX6_readHouse 171 = .ok (.iconst 1, 1) := by decide +kernel
theorem dX6_readHouse_172 : decode cX6_readHouse 172 = .ok (.iadd, 1) := by decide +kernel
theorem dX6_readHouse_173 : decode cX6_readHouse 173 = .ok (.invokevirtual 104, 3) := by decide +kernel
theorem dX6_readHouse_176 : decode cX6_readHouse 176 = .ok (.iastore, 1) := by decide +kernel
theorem dX6_readHouse_177 : decode cX6_readHouse 177 = .ok (.aload_n 1, 1) := by decide +kernel
theorem dX6_readHouse_178 : decode cX6_readHouse 178 = .ok (.getfield 134, 3) := by decide +kernel
theorem dX6_readHouse_181 : decode cX6_readHouse 181 = .ok (.iload_n 2, 1) := by decide +kernel
theorem dX6_readHouse_182 : decode cX6_readHouse 182 = .ok (.aload_n 0, 1) := by decide +kernel
theorem dX6_readHouse_183 : decode cX6_readHouse 183 = .ok (.iload_n 3, 1) := by decide +kernel
theorem dX6_readHouse_184 : decode cX6_readHouse 184 = .ok (.iconst 2, 1) := by decide +kernel
theorem dX6_readHouse_185 : decode cX6_readHouse 185 = .ok (.iadd, 1) := by decide +kernel
theorem dX6_readHouse_186 : decode cX6_readHouse 186 = .ok (.invokevirtual 104, 3) := by decide +kernel
theorem dX6_readHouse_189 : decode cX6_readHouse 189 = .ok (.iastore, 1) := by decide +kernel
theorem dX6_readHouse_190 : decode cX6_readHouse 190 = .ok (.iinc 2 1, 3) := by decide +kernel
theorem dX6_readHouse_193 : decode cX6_readHouse 193 = .ok (.goto (-57), 3) := by decide +kernel
theorem dX6_readHouse_196 : decode cX6_readHouse 196 = .ok (.return_, 1) := by decide +kernel
theorem dX11_house_0 : decode cX11_house 0 = .ok (.aload_n 0, 1) := by decide +kernel
theorem dX11_house_1 : decode cX11_house 1 = .ok (.getfield 10, 3) := by decide +kernel
theorem dX11_house_4 : decode cX11_house 4 = .ok (.invokevirtual 74, 3) := by decide +kernel
theorem dX11_house_7 : decode cX11_house 7 = .ok (.aload_n 0, 1) := by decide +kernel
theorem dX11_house_8 : decode cX11_house 8 = .ok (.getfield 10, 3) := by decide +kernel
theorem dX11_house_11 : decode cX11_house 11 = .ok (.getfield 80, 3) := by decide +kernel
theorem dX11_house_14 : decode cX11_house 14 = .ok (.ifCond .ne 6, 3) := by decide +kernel
theorem dX11_house_17 : decode cX11_house 17 = .ok (.bipush (-103), 2) := by decide +kernel
theorem dX11_house_19 : decode cX11_house 19 = .ok (.ireturn, 1) := by decide +kernel
theorem dX11_house_20 : decode cX11_house 20 = .ok (.aload_n 0, 1) := by decide +kernel
theorem dX11_house_21 : decode cX11_house 21 = .ok (.getfield 10, 3) := by decide +kernel
theorem dX11_house_24 : decode cX11_house 24 = .ok (.aload_n 0, 1) := by decide +kernel
theorem dX11_house_25 : decode cX11_house 25 = .ok (.getfield 19, 3) := by decide +kernel
theorem dX11_house_28 : decode cX11_house 28 = .ok (.invokevirtual 83, 3) := by decide +kernel
theorem dX11_house_31 : decode cX11_house 31 = .ok (.aload_n 0, 1) := by decide +kernel
theorem dX11_house_32 : decode cX11_house 32 = .ok (.getfield 10, 3) := by decide +kernel
theorem dX11_house_35 : decode cX11_house 35 = .ok (.aload_n 0, 1) := by decide +kernel
theorem dX11_house_36 : decode cX11_house 36 = .ok (.getfield 28, 3) := by decide +kernel
theorem dX11_house_39 : decode cX11_house 39 = .ok (.invokevirtual 86, 3) := by decide +kernel
theorem dX11_house_42 : decode cX11_house 42 = .ok (.aload_n 0, 1) := by decide +kernel
theorem dX11_house_43 : decode cX11_house 43 = .ok (.getfield 10, 3) := by decide +kernel
theorem dX11_house_46 : decode cX11_house 46 = .ok (.iconst 0, 1) := by decide +kernel
theorem dX11_house_47 : decode cX11_house 47 = .ok (.putfield 71, 3) := by decide +kernel
theorem dX11_house_50 : decode cX11_house 50 = .ok (.aload_n 0, 1) := by decide +kernel
theorem dX11_house_51 : decode cX11_house 51 = .ok (.iconst 0, 1) := by decide +kernel
theorem dX11_house_52 : decode cX11_house 52 = .ok (.putfield 59, 3) := by decide +kernel
theorem dX11_house_55 : decode cX11_house 55 = .ok (.aload_n 0, 1) := by decide +kernel
theorem dX11_house_56 : decode cX11_house 56 = .ok (.dup, 1) := by decide +kernel
theorem dX11_house_57 : decode cX11_house 57 = .ok (.getfield 63, 3) := by decide +kernel
theorem dX11_house_60 : decode cX11_house 60 = .ok (.iconst 1, 1) := by decide +kernel
theorem dX11_house_61 : decode cX11_house 61 = .ok (.iadd, 1) := by decide +kernel
theorem dX11_house_62 : decode cX11_house 62 = .ok (.putfield 63, 3) := by decide +kernel
theorem dX11_house_65 : decode cX11_house 65 = .ok (.aload_n 0, 1) := by decide +kernel
theorem dX11_house_66 : decode cX11_house 66 = .ok (.getfield 19, 3) := by decide +kernel
theorem dX11_house_69 : decode cX11_house 69 = .ok (.getfield 90, 3) := by decide +kernel
theorem dX11_house_72 : decode cX11_house 72 = .ok (.ireturn, 1) := by decide +kernel
theorem fp_X6_95 {E : Ek} {x : MC} {cc : ByteArray} {nL hm pc : Nat} {M : Mem} {lv : List (Nat × Value)} {st : List Value} (X : Cx E x cc nL RX6 hm) {v : Int32} {A : Mem → Prop} (hd : decode cc pc = .ok (.putfield 95, 3)) (h : ∀ M1, M1 = wr M 3 0 v → A M1) (kk : ∀ M1, A M1 → G E x M1 (pc + 3) lv st) : G E x M pc lv (.int v :: .ref (ad E 3) :: st) := g_putIN X (⟨by decide, fun E f h => ⟨_, rfl, rfl, fun v => ⟨rfl, Nat.le_of_ble_eq_true rfl⟩⟩⟩ : FI 3 4 0) (ci := 4) (T := TX4) (N := 11) (ty := .int) rfl in_X4 tyX4 tyX4_ok nmX4 (Nat.le_of_ble_eq_true rfl) h865 rfl (by decide +kernel) rfl rfl hd h kk
theorem fp_X6_98 {E : Ek} {x : MC} {cc : ByteArray} {nL hm pc : Nat} {M : Mem} {lv : List (Nat × Value)} {st : List Value} (X : Cx E x cc nL RX6 hm) {v : Int32} {A : Mem → Prop} (hd : decode cc pc = .ok (.putfield 98, 3)) (h : ∀ M1, M1 = wr M 3 1 v → A M1) (kk : ∀ M1, A M1 → G E x M1 (pc + 3) lv st) : G E x M pc lv (.int v :: .ref (ad E 3) :: st) := g_putIN X (⟨by decide, fun E f h => ⟨_, rfl, rfl, fun v => ⟨rfl, Nat.le_of_ble_eq_true rfl⟩⟩⟩ : FI 3 4 1) (ci := 4) (T := TX4) (N := 11) (ty := .int) rfl in_X4 tyX4 tyX4_ok nmX4 (Nat.le_of_ble_eq_true rfl) h866 rfl (by decide +kernel) rfl rfl hd h kk
theorem fp_X6_99 {E : Ek} {x : MC} {cc : ByteArray} {nL hm pc : Nat} {M : Mem} {lv : List (Nat × Value)} {st : List Value} (X : Cx E x cc nL RX6 hm) {v : Int32} {A : Mem → Prop} (hd : decode cc pc = .ok (.putfield 99, 3)) (h : ∀ M1, M1 = wr M 3 2 v → A M1) (kk : ∀ M1, A M1 → G E x M1 (pc + 3) lv st) : G E x M pc lv (.int v :: .ref (ad E 3) :: st) := g_putIN X (⟨by decide, fun E f h => ⟨_, rfl, rfl, fun v => ⟨rfl, Nat.le_of_ble_eq_true rfl⟩⟩⟩ : FI 3 4 2) (ci := 4) (T := TX4) (N := 11) (ty := .int) rfl in_X4 tyX4 tyX4_ok nmX4 (Nat.le_of_ble_eq_true rfl) h867 rfl (by decide +kernel) rfl rfl hd h kk
theorem fp_X6_100 {E : Ek} {x : MC} {cc : ByteArray} {nL hm pc : Nat} {M : Mem} {lv : List (Nat × Value)} {st : List Value} (X : Cx E x cc nL RX6 hm) {v : Int32} {A : Mem → Prop} (hd : decode cc pc = .ok (.putfield 100, 3)) (h : ∀ M1, M1 = wr M 3 3 v → A M1) (kk : ∀ M1, A M1 → G E x M1 (pc + 3) lv st) : G E x M pc lv (.int v :: .ref (ad E 3) :: st) := g_putIN X (⟨by decide, fun E f h => ⟨_, rfl, rfl, fun v => ⟨rfl, Nat.le_of_ble_eq_true rfl⟩⟩⟩ : FI 3 4 3) (ci := 4) (T := TX4) (N := 11) (ty := .int) rfl in_X4 tyX4 tyX4_ok nmX4 (Nat.le_of_ble_eq_true rfl) h868 rfl (by decide +kernel) rfl rfl hd h kk
theorem fg_X6_101 {E : Ek} {x : MC} {cc : ByteArray} {nL hm pc : Nat} {M : Mem} {lv : List (Nat × Value)} {st : List Value} (X : Cx E x cc nL RX6 hm) (hd : decode cc pc = .ok (.getfield 101, 3)) (kk : G E x M (pc + 3) lv (.ref (ad E 4) :: st)) : G E x M pc lv (.ref (ad E 3) :: st) := g_getRN X (⟨by decide, fun E f h => ⟨_, rfl, rfl⟩⟩ : FR 3 4 4 4) (ci := 4) (T := TX4) (N := 11) rfl in_X4 (Nat.le_of_ble_eq_true rfl) h869 hd kk
theorem fg_X6_107 {E : Ek} {x : MC} {cc : ByteArray} {nL hm pc : Nat} {M : Mem} {lv : List (Nat × Value)} {st : List Value} (X : Cx E x cc nL RX6 hm) (hd : decode cc pc = .ok (.getfield 107, 3)) (kk : G E x M (pc + 3) lv (.ref (ad E 5) :: st)) : G E x M pc lv (.ref (ad E 3) :: st) := g_getRN X (⟨by decide, fun E f h => ⟨_, rfl, rfl⟩⟩ : FR 3 4 5 5) (ci := 4) (T := TX4) (N := 11) rfl in_X4 (Nat.le_of_ble_eq_true rfl) h870 hd kk
theorem fg_X6_110 {E : Ek} {x : MC} {cc : ByteArray} {nL hm pc : Nat} {M : Mem} {lv : List (Nat × Value)} {st : List Value} (X : Cx E x cc nL RX6 hm) (hd : decode cc pc = .ok (.getfield 110, 3)) (kk : G E x M (pc + 3) lv (.ref (ad E 6) :: st)) : G E x M pc lv (.ref (ad E 3) :: st) := g_getRN X (⟨by decide, fun E f h => ⟨_, rfl, rfl⟩⟩ : FR 3 4 6 6) (ci := 4) (T := TX4) (N := 11) rfl in_X4 (Nat.le_of_ble_eq_true rfl) h871 hd kk
theorem fg_X6_117 {E : Ek} {x : MC} {cc : ByteArray} {nL hm pc : Nat} {M : Mem} {lv : List (Nat × Value)} {st : List Value} (X : Cx E x cc nL RX6 hm) (hd : decode cc pc = .ok (.getfield 117, 3)) (kk : G E x M (pc + 3) lv (.ref (ad E 7) :: st)) : G E x M pc lv (.ref (ad E 3) :: st) := g_getRN X (⟨by decide, fun E f h => ⟨_, rfl, rfl⟩⟩ : FR 3 4 7 7) (ci := 4) (T := TX4) (N := 11) rfl in_X4 (Nat.le_of_ble_eq_true rfl) h875 hd kk
theorem fg_X6_128 {E : Ek} {x : MC} {cc : ByteArray} {nL hm pc : Nat} {M : Mem} {lv : List (Nat × Value)} {st : List Value} (X : Cx E x cc nL RX6 hm) (hd : decode cc pc = .ok (.getfield 128, 3)) (kk : G E x M (pc + 3) lv (.ref (ad E 8) :: st)) : G E x M pc lv (.ref (ad E 3) :: st) := g_getRN X (⟨by decide, fun E f h => ⟨_, rfl, rfl⟩⟩ : FR 3 4 8 8) (ci := 4) (T := TX4) (N := 11) rfl in_X4 (Nat.le_of_ble_eq_true rfl) h876 hd kk
theorem fg_X6_131 {E : Ek} {x : MC} {cc : ByteArray} {nL hm pc : Nat} {M : Mem} {lv : List (Nat × Value)} {st : List Value} (X : Cx E x cc nL RX6 hm) (hd : decode cc pc = .ok (.getfield 131, 3)) (kk : G E x M (pc + 3) lv (.ref (ad E 9) :: st)) : G E x M pc lv (.ref (ad E 3) :: st) := g_getRN X (⟨by decide, fun E f h => ⟨_, rfl, rfl⟩⟩ : FR 3 4 9 9) (ci := 4) (T := TX4) (N := 11) rfl in_X4 (Nat.le_of_ble_eq_true rfl) h877 hd kk
theorem fg_X6_134 {E : Ek} {x : MC} {cc : ByteArray} {nL hm pc : Nat} {M : Mem} {lv : List (Nat × Value)} {st : List Value} (X : Cx E x cc nL RX6 hm) (hd : decode cc pc = .ok (.getfield 134, 3)) (kk : G E x M (pc + 3) lv (.ref (ad E 10) :: st)) : G E x M pc lv (.ref (ad E 3) :: st) := g_getRN X (⟨by decide, fun E f h => ⟨_, rfl, rfl⟩⟩ : FR 3 4 10 10) (ci := 4) (T := TX4) (N := 11) rfl in_X4 (Nat.le_of_ble_eq_true rfl) h878 hd kk
theorem fg_X11_80 {E : Ek} {x : MC} {cc : ByteArray} {nL hm pc : Nat} {M : Mem} {lv : List (Nat × Value)} {st : List Value} (X : Cx E x cc nL RX11 hm) (hd : decode cc pc = .ok (.getfield 80, 3)) (kk : G E x M (pc + 3) lv (.int (rd M 1 3) :: st)) : G E x M pc lv (.ref (ad E 1) :: st) := g_getIN X (⟨by decide, fun E f h => ⟨_, rfl, rfl, fun v => ⟨rfl, Nat.le_of_ble_eq_true rfl⟩⟩⟩ : FI 1 6 3) (ci := 6) (T := TX6) (N := 11) rfl in_X6 (Nat.le_of_ble_eq_true rfl) h879 hd kk
theorem fp_X11_63 {E : Ek} {x : MC} {cc : ByteArray} {nL hm pc : Nat} {M : Mem} {lv : List (Nat × Value)} {st : List Value} (X : Cx E x cc nL RX11 hm) {v : Int32} {A : Mem → Prop} (hd : decode cc pc = .ok (.putfield 63, 3)) (h : ∀ M1, M1 = wr M 0 9 v → A M1) (kk : ∀ M1, A M1 → G E x M1 (pc + 3) lv st) : G E x M pc lv (.int v :: .ref (ad E 0) :: st) := g_putI X (⟨by decide, fun E f h => ⟨_, rfl, rfl, fun v => ⟨rfl, Nat.le_of_ble_eq_true rfl⟩⟩⟩ : FI 0 11 9) (ci := 11) (T := TX11) (N := 10) (ty := .int) rfl in_X11 tyX11 tyX11_ok nmX11 (Nat.le_of_ble_eq_true rfl) m461 rfl (by decide +kernel) rfl rfl hd h kk
theorem cl_X6_113 {E : Ek} {x : MC} {cc : ByteArray} {nL hm pc : Nat} {M : Mem} {lv : List (Nat × Value)} {st : List Value} (X : Cx E x cc nL RX6 hm) {k1 : Nat} {v2 : Int32} (hk1 : k1 < 2) {Post : Int32 → Mem → Prop} (hr : 5 < hm) (hW : (st.map fun v => v.category).sum ≤ 8) (hd : decode cc pc = .ok (.invokevirtual 113, 3)) (h : wp_X6_placeIn Post M k1 v2) (kk : ∀ r M1, Post r M1 → G E x M1 (pc + 3) lv (.int r :: st)) : G E x M pc lv (.int v2 :: .ref (eK E k1) :: .ref (ad E 1) :: st) := k_I (fun hP hS hL => run_V X (w_X6_placeIn E (xl x) hk1 h) cw_X6_placeIn h872 h873 h874 (⟨by decide, fun E f h => ⟨_, _, _, rfl, rfl, rfl⟩⟩ : OC 1 RX6) hr rfl hd hW hP hS hL) kk
theorem cl_X11_86 {E : Ek} {x : MC} {cc : ByteArray} {nL hm pc : Nat} {M : Mem} {lv : List (Nat × Value)} {st : List Value} (X : Cx E x cc nL RX11 hm) {o1 : Nat} (ho1 : Aff o1) {Post : Mem → Prop} (hr : 3 < hm) (hW : (st.map fun v => v.category).sum ≤ 8) (hd : decode cc pc = .ok (.invokevirtual 86, 3)) (h : wp_X6_readAffairs Post M o1) (kk : ∀ M1, Post M1 → G E x M1 (pc + 3) lv st) : G E x M pc lv (.ref (ad E o1) :: .ref (ad E 1) :: st) := k_V (fun hP hS hL => run_VN X (w_X6_readAffairs E (xl x) ho1 h) cw_X6_readAffairs h880 h881 h882 (⟨by decide, fun E f h => ⟨_, _, _, rfl, rfl, rfl⟩⟩ : OC 1 RX6) hr rfl hd hW hP hS hL) kk
def QAV (E : Ek) (x : MC) (Post : Mem → Prop) : Prop := xQ x = MQ (xb x) (va_Qv (fun u : Ek × Mem => Same E u.1 ∧ Apart u.1 ∧ Post u.2) (fun u t => wdP u.1 u.2 t) (frE E)) (xa x) (xs x) 4 0 (frE E) ∧ (xM x).sig.returnType = none ∧ 4 ≤ (xR x).cells ∧ xz x = 0
def QAI (E : Ek) (x : MC) (Post : Int32 → Mem → Prop) : Prop := xQ x = MQ (xb x) (va_Qi (fun r (u : Ek × Mem) => Same E u.1 ∧ Apart u.1 ∧ Post r u.2) (fun u t => wdP u.1 u.2 t) (frE E)) (xa x) (xs x) 4 0 (frE E) ∧ (xM x).sig.returnType = some .int ∧ 4 ≤ (xR x).cells ∧ xz x = 0
section HA
variable {E0 E : Ek} {x0 x : MC} {cc : ByteArray} {nL hm pc k1 : Nat} {own : String} {M : Mem} {lv : List (Nat × Value)} {st : List Value}
theorem g_vretA (X : Cx E (xkz x0 k1 (xz x0)) cc nL own hm) {Post : Mem → Prop} (hQ : QAV E0 x0 Post) (hs : Same E0 E) (ha : Apart E) (hk : k1 ≤ 4) (hd : decode cc pc = .ok (.return_, 1)) (h : Post M) : G E (xkz x0 k1 (xz x0)) M pc lv [] := fun H locs ls hP hS hL => by
  show W (xp x0) (xl x0) (xe x0) (xR x0) (xs x0) (xm x0) (xa x0) (xb x0) (xM x0) (xc x0) H locs k1 (xz x0) (xQ x0) (F0 (xm x0) pc ls [])
  rw [hQ.1]
  have hS' : va_S (frE E0) (xs x0).heap H locs := by rw [← hs.fr]; exact hS
  refine W.widen (k := 4) (n := 0) hk (by rw [hQ.2.2.2]; exact Nat.le_refl _) ?_
  exact W.vret X.ex X.cb hQ.2.1 (fun t ht hW => ⟨⟨(E, M), rfl, ⟨hs, ha, h⟩, by show va_P _ _ _ _; rw [ht]; exact hP⟩, hS'.F ht⟩) hS'.2.2 hd X.lk
theorem g_iretA (X : Cx E (xkz x0 k1 (xz x0)) cc nL own hm) {Post : Int32 → Mem → Prop} {v : Int32} (hQ : QAI E0 x0 Post) (hs : Same E0 E) (ha : Apart E) (hk : k1 ≤ 4) (hd : decode cc pc = .ok (.ireturn, 1)) (h : Post v M) : G E (xkz x0 k1 (xz x0)) M pc lv [.int v] := fun H locs ls hP hS hL => by
  show W (xp x0) (xl x0) (xe x0) (xR x0) (xs x0) (xm x0) (xa x0) (xb x0) (xM x0) (xc x0) H locs k1 (xz x0) (xQ x0) (F0 (xm x0) pc ls [.int v])
  rw [hQ.1]
  have hS' : va_S (frE E0) (xs x0).heap H locs := by rw [← hs.fr]; exact hS
  refine W.widen (k := 4) (n := 0) hk (by rw [hQ.2.2.2]; exact Nat.le_refl _) ?_
  exact W.iret (v := v) X.ex X.cb hQ.2.1 (fun t ht hW => ⟨⟨v, (E, M), rfl, ⟨hs, ha, h⟩, by show va_P _ _ _ _; rw [ht]; exact hP⟩, hS'.F ht⟩) hS'.2.2 hd X.lk
theorem g_iincE (X : Cx E x cc nL own hm) {i : Nat} {n : Int} {v : Int32} {w : Int32} {A : Int32 → Prop} (hd : decode cc pc = .ok (.iinc i n, 3)) (j : Nat) (hk : lv[j]? = some (i, .int v)) (hw : Int32.ofInt n = w) (hn : i < nL) (hc : lsto lv i = true) (lv' : Int32 → List (Nat × Value)) (hl : ∀ y, lset lv i (.int y) = lv' y) (h : ∀ y, y = v + w → A y) (kk : ∀ y, y = v + w → A y → G E x M (pc + 3) (lv' y) st) : G E x M pc lv st := fun H locs ls hP hS hL => lv_iinc (v := v + w) X.ex X.cb hd hL hk (by rw [hw]) (by rw [X.nl]; exact hn) rfl (fun ls' h' => kk (v + w) rfl (h _ rfl) H locs ls' hP hS (hl (v + w) ▸ lset_has hc h'))
theorem cl_succ {v y : Int32} {n : Nat} (h : vp_in v n) (hn : n < 1000) (hy : y = v + 1) : y.toNatClampNeg = v.toNatClampNeg + 1 := by
  obtain ⟨j, hj, e⟩ := vp_in_of h (by omega)
  rw [hy, e, nI_1, nI_clamp (by omega), nI_clamp (by omega)]
/-- a contract whose room holds four new people -/
def ctA (E : Ek) (l : Launch) (y : MethodName) (b : ByteArray) (mL : Nat) (rt : Option FieldType) (h : Nat) (As : List Value) (M : Mem) (Qc : Array Value → State → Outcome → State → Prop) : Prop := Met l y (.code y b mL rt :: gt) (rmk h 4 0) (va_Pc As (Wd E M)) Qc 4 0 (frE E)
theorem ctA_of {l : Launch} {y : MethodName} {b : ByteArray} {mL h : Nat} {rt : Option FieldType} {As : List Value} {Qc : Array Value → State → Outcome → State → Prop} (hy : plainName y.cls = true) (hlen : (lg_sl As).length ≤ mL) (body : ∀ x : MC, Cx E x b mL y.cls h → xQ x = MQ (xb x) Qc (xa x) (xs x) 4 0 (frE E) ∧ (xM x).sig.returnType = rt ∧ 4 ≤ (xR x).cells ∧ xz x = 0 → G E (xkz x 0 (xz x)) M 0 (lv_args 0 As) []) : ctA E l y b mL rt h As M Qc := by
  refine Met.ofW (cc := b) (maxL := mL) (ret := rt) hy rfl ?_
  intro p e s m args below meth c s₁ B hml hv
  obtain ⟨rfl, hP, hE, hAp, hSt, hsz⟩ := hv
  have hts := atoms_spec (ws := .code y b mL rt :: gt) B.pre
  have hown : s.vm.findClass y.cls = some m.cls := findClass_of_methodNamed B.named
  have hl := lv_entry As (n := mL) hlen
  rw [lg_entry_eq]
  exact body (p, l, e, (headSpec (.code y b mL rt :: gt) (rmk h 4 0)).room, s, m, As.toArray, below, meth, c, MQ below Qc As.toArray s 4 0 (frE E), mL, 0, 0) ⟨B.exec, B.bytes, hml, rfl, hown, fun w hw => hts w (List.mem_cons_of_mem _ hw), B.notSynchronized, ⟨Nat.le_refl _, Nat.le_refl _⟩, ⟨Nat.zero_le _, Nat.zero_le _⟩, hE, hAp, hSt, hsz⟩ ⟨rfl, B.returns, Nat.le_refl _, rfl⟩ s.heap [] _ hP va_S.rf hl
theorem Cx.roomA (X : Cx E x cc nL own hm) {hc mL : Nat} (hr : hc < hm) (hl : mL ≤ 21) : (rmk hc 4 0).frames + 1 ≤ (xR x).frames ∧ 8 + (mL + 11) + (rmk hc 4 0).locals ≤ (xR x).locals := by
  have h := X.rm
  refine ⟨?_, ?_⟩
  · show hc + 1 ≤ _; omega
  · show 8 + (mL + 11) + 40 * hc ≤ _; omega
end HA
theorem cw_X6_readHouse : CW yX6_readHouse cX6_readHouse 4 none 1 := ⟨h883, m3, Nat.le_of_ble_eq_true rfl, by decide +kernel⟩
def wp_X6_readHouse_b136 (Post : Mem → Prop) (P34 : Mem → Int32 → Prop) (P97 : Mem → Int32 → Prop) (P136 : Mem → Int32 → Prop) (M : Mem) (v2 : Int32) : Prop :=
 ((rd M 1 10) ≤ v2 →
  Post M) ∧
 (¬ (rd M 1 10) ≤ v2 →
  wp_X6_debtsAt (fun r22 M23 =>
   ∀ x3_24 : Int32, x3_24 = r22 + ((5 : Int32) * v2) →
   wp_X6_digitAt (fun r25 M26 =>
    vp_in v2 4 ∧
    ∀ M27 : Mem, M27 = wr M26 8 v2.toNatClampNeg r25 →
    wp_X6_digitAt (fun r28 M29 =>
     vp_in v2 4 ∧
     ∀ M30 : Mem, M30 = wr M29 9 v2.toNatClampNeg r28 →
     wp_X6_digitAt (fun r31 M32 =>
      vp_in v2 4 ∧
      ∀ M33 : Mem, M33 = wr M32 10 v2.toNatClampNeg r31 →
      ∀ x2_34 : Int32, x2_34 = v2 + 1 →
      P136 M33 x2_34) M30 (x3_24 + 2)) M27 (x3_24 + 1)) M23 x3_24) M )
def wp_X6_readHouse_b128 (Post : Mem → Prop) (P34 : Mem → Int32 → Prop) (P97 : Mem → Int32 → Prop) (P136 : Mem → Int32 → Prop) (M : Mem) (v2 : Int32) : Prop :=
 ∀ x2_21 : Int32, x2_21 = v2 + 1 →
 P97 M x2_21
def wp_X6_readHouse_b97 (Post : Mem → Prop) (P34 : Mem → Int32 → Prop) (P97 : Mem → Int32 → Prop) (P136 : Mem → Int32 → Prop) (M : Mem) (v2 : Int32) : Prop :=
 ((rd M 1 9) ≤ v2 →
  P136 M 0) ∧
 (¬ (rd M 1 9) ≤ v2 →
  wp_X6_peopleAt (fun r16 M17 =>
   wp_X6_placeIn (fun r18 M19 =>
    vp_in v2 4 ∧
    ∀ M20 : Mem, M20 = wr M19 (11 + v2.toNatClampNeg) 0 r18 →
    wp_X6_readHouse_b128 Post P34 P97 P136 M20 v2) M17 1 (r16 + ((4 : Int32) * v2))) M )
def wp_X6_readHouse_b34 (Post : Mem → Prop) (P34 : Mem → Int32 → Prop) (P97 : Mem → Int32 → Prop) (P136 : Mem → Int32 → Prop) (M : Mem) (v2 : Int32) : Prop :=
 ((rd M 1 8) ≤ v2 →
  P97 M 0) ∧
 (¬ (rd M 1 8) ≤ v2 →
  ∀ x3_5 : Int32, x3_5 = (2 : Int32) + ((4 : Int32) * v2) →
  wp_X6_digitAt (fun r6 M7 =>
   vp_in v2 6 ∧
   ∀ M8 : Mem, M8 = wr M7 4 v2.toNatClampNeg r6 →
   wp_X6_digitAt (fun r9 M10 =>
    vp_in v2 6 ∧
    ∀ M11 : Mem, M11 = wr M10 5 v2.toNatClampNeg r9 →
    wp_X6_placeIn (fun r12 M13 =>
     vp_in v2 6 ∧
     ∀ M14 : Mem, M14 = wr M13 6 v2.toNatClampNeg (r12 - 1) →
     ∀ x2_15 : Int32, x2_15 = v2 + 1 →
     P34 M14 x2_15) M11 0 (x3_5 + 2)) M8 (x3_5 + 1)) M x3_5)
def wp_X6_readHouse (Post : Mem → Prop) (M : Mem) : Prop :=
 ∀ (P34 : Mem → Int32 → Prop) (P97 : Mem → Int32 → Prop) (P136 : Mem → Int32 → Prop) ,
  (∀ (M : Mem) (v2 : Int32), wp_X6_readHouse_b34 Post P34 P97 P136 M v2 → P34 M v2) →
  (∀ (M : Mem) (v2 : Int32), wp_X6_readHouse_b97 Post P34 P97 P136 M v2 → P97 M v2) →
  (∀ (M : Mem) (v2 : Int32), wp_X6_readHouse_b136 Post P34 P97 P136 M v2 → P136 M v2) →
 ∀ M1 : Mem, M1 = wr M 3 0 (rd M 1 7) →
 ∀ M2 : Mem, M2 = wr M1 3 1 (rd M1 1 8) →
 ∀ M3 : Mem, M3 = wr M2 3 2 (rd M2 1 9) →
 ∀ M4 : Mem, M4 = wr M3 3 3 (rd M3 1 10) →
 P34 M4 0
theorem k_X6_readHouse_b136 {E0 E : Ek} {x0 : MC} {k1 : Nat} (X0 : Cx E0 x0 cX6_readHouse 4 RX6 6) {Post : Mem → Prop} (hQ : QAV E0 x0 Post) (hs : Same E0 E) (ha : Apart E) (hk1 : k1 ≤ 4) {M : Mem} {v2 : Int32} (hc : True) (h : wp_X6_readHouse_b136 Post (fun M v2 => ∀ (E : Ek) (k1 : Nat), Same E0 E → Apart E → k1 ≤ 4 → k1 = 0 → G E (xkz x0 k1 (xz x0)) M 34 [(0, .ref (ad E 1)), (1, .ref (ad E 3)), (2, .int v2)] []) (fun M v2 => ∀ (E : Ek) (k1 : Nat), Same E0 E → Apart E → k1 ≤ 4 → k1 ≤ v2.toNatClampNeg → G E (xkz x0 k1 (xz x0)) M 97 [(0, .ref (ad E 1)), (1, .ref (ad E 3)), (2, .int v2)] []) (fun M v2 => ∀ (E : Ek) (k1 : Nat), Same E0 E → Apart E → k1 ≤ 4 → True → G E (xkz x0 k1 (xz x0)) M 136 [(0, .ref (ad E 1)), (1, .ref (ad E 3)), (2, .int v2)] []) M v2) : G E (xkz x0 k1 (xz x0)) M 136 [(0, .ref (ad E 1)), (1, .ref (ad E 3)), (2, .int v2)] [] := by
  have X := X0.to hs ha (k := k1) (Nat.le_trans hk1 hQ.2.2.1)
  refine g_iload_n X dX6_readHouse_136 rfl 2 rfl ?_
  refine g_aload_n X dX6_readHouse_137 rfl 0 rfl ?_
  refine fg_X6_37 X dX6_readHouse_138 ?_
  refine g_icmpge (tgt := 196) X dX6_readHouse_141 (by decide) h (fun h => ?_) (fun h => ?_)
  · exact g_vretA X hQ hs ha hk1 dX6_readHouse_196 h
  · refine g_aload_n X dX6_readHouse_144 rfl 0 rfl ?_
    refine cl_X6_125 X (by decide) (Nat.le_of_ble_eq_true rfl) dX6_readHouse_145 h (fun r22 M23 h => ?_)
    refine g_iconst (v := 5) X dX6_readHouse_148 (by decide) ?_
    refine g_iload_n X dX6_readHouse_149 rfl 2 rfl ?_
    refine g_imul X dX6_readHouse_150 ?_
    refine g_iadd X dX6_readHouse_151 ?_
    refine g_nm h (fun x3_24 h => ?_)
    refine g_istore_n (lv' := [(0, .ref (ad E 1)), (1, .ref (ad E 3)), (2, .int v2), (3, .int x3_24)]) X dX6_readHouse_152 rfl (Nat.le_of_ble_eq_true rfl) rfl rfl ?_
    refine g_aload_n X dX6_readHouse_153 rfl 1 rfl ?_
    refine fg_X6_128 X dX6_readHouse_154 ?_
    refine g_iload_n X dX6_readHouse_157 rfl 2 rfl ?_
    refine g_aload_n X dX6_readHouse_158 rfl 0 rfl ?_
    refine g_iload_n X dX6_readHouse_159 rfl 3 rfl ?_
    refine cl_X6_104 X (by decide) (Nat.le_of_ble_eq_true rfl) dX6_readHouse_160 h (fun r25 M26 h => ?_)
    refine g_iast X ia_8 dX6_readHouse_163 h (fun M27 h => ?_)
    refine g_aload_n X dX6_readHouse_164 rfl 1 rfl ?_
    refine fg_X6_131 X dX6_readHouse_165 ?_
    refine g_iload_n X dX6_readHouse_168 rfl 2 rfl ?_
    refine g_aload_n X dX6_readHouse_169 rfl 0 rfl ?_
    refine g_iload_n X dX6_readHouse_170 rfl 3 rfl ?_
    refine g_iconst (v := 1) X dX6_readHouse_171 (by decide) ?_
    refine g_iadd X dX6_readHouse_172 ?_
    refine cl_X6_104 X (by decide) (Nat.le_of_ble_eq_true rfl) dX6_readHouse_173 h (fun r28 M29 h => ?_)
    refine g_iast X ia_9 dX6_readHouse_176 h (fun M30 h => ?_)
    refine g_aload_n X dX6_readHouse_177 rfl 1 rfl ?_
    refine fg_X6_134 X dX6_readHouse_178 ?_
    refine g_iload_n X dX6_readHouse_181 rfl 2 rfl ?_
    refine g_aload_n X dX6_readHouse_182 rfl 0 rfl ?_
    refine g_iload_n X dX6_readHouse_183 rfl 3 rfl ?_
    refine g_iconst (v := 2) X dX6_readHouse_184 (by decide) ?_
    refine g_iadd X dX6_readHouse_185 ?_
    refine cl_X6_104 X (by decide) (Nat.le_of_ble_eq_true rfl) dX6_readHouse_186 h (fun r31 M32 h => ?_)
    refine g_iast X ia_10 dX6_readHouse_189 h (fun M33 h => ?_)
    refine g_iinc (w := 1) X dX6_readHouse_190 2 rfl (by decide) (Nat.le_of_ble_eq_true rfl) rfl (fun x2_34 => [(0, .ref (ad E 1)), (1, .ref (ad E 3)), (2, .int x2_34), (3, .int x3_24)]) (fun _ => rfl) h (fun x2_34 h => ?_)
    refine g_goto (tgt := 136) X dX6_readHouse_193 (by decide) ?_
    exact g_sub [0, 1, 2] rfl (h E k1 hs ha hk1 trivial)
theorem k_X6_readHouse_b128 {E0 E : Ek} {x0 : MC} {k1 : Nat} (X0 : Cx E0 x0 cX6_readHouse 4 RX6 6) {Post : Mem → Prop} (hQ : QAV E0 x0 Post) (hs : Same E0 E) (ha : Apart E) (hk1 : k1 ≤ 4) {M : Mem} {v2 : Int32} (hc : k1 ≤ v2.toNatClampNeg + 1 ∧ vp_in v2 4) (h : wp_X6_readHouse_b128 Post (fun M v2 => ∀ (E : Ek) (k1 : Nat), Same E0 E → Apart E → k1 ≤ 4 → k1 = 0 → G E (xkz x0 k1 (xz x0)) M 34 [(0, .ref (ad E 1)), (1, .ref (ad E 3)), (2, .int v2)] []) (fun M v2 => ∀ (E : Ek) (k1 : Nat), Same E0 E → Apart E → k1 ≤ 4 → k1 ≤ v2.toNatClampNeg → G E (xkz x0 k1 (xz x0)) M 97 [(0, .ref (ad E 1)), (1, .ref (ad E 3)), (2, .int v2)] []) (fun M v2 => ∀ (E : Ek) (k1 : Nat), Same E0 E → Apart E → k1 ≤ 4 → True → G E (xkz x0 k1 (xz x0)) M 136 [(0, .ref (ad E 1)), (1, .ref (ad E 3)), (2, .int v2)] []) M v2) : G E (xkz x0 k1 (xz x0)) M 128 [(0, .ref (ad E 1)), (1, .ref (ad E 3)), (2, .int v2)] [] := by
  have X := X0.to hs ha (k := k1) (Nat.le_trans hk1 hQ.2.2.1)
  refine g_iincE (w := 1) X dX6_readHouse_128 2 rfl (by decide) (Nat.le_of_ble_eq_true rfl) rfl (fun x2_21 => [(0, .ref (ad E 1)), (1, .ref (ad E 3)), (2, .int x2_21)]) (fun _ => rfl) h (fun x2_21 hy h => ?_)
  refine g_goto (tgt := 97) X dX6_readHouse_131 (by decide) ?_
  exact (h E k1 hs ha hk1 (by rw [cl_succ hc.2 (by omega) hy]; exact hc.1))
theorem k_X6_readHouse_b97 {E0 E : Ek} {x0 : MC} {k1 : Nat} (X0 : Cx E0 x0 cX6_readHouse 4 RX6 6) {Post : Mem → Prop} (hQ : QAV E0 x0 Post) (hs : Same E0 E) (ha : Apart E) (hk1 : k1 ≤ 4) {M : Mem} {v2 : Int32} (hc : k1 ≤ v2.toNatClampNeg) (h : wp_X6_readHouse_b97 Post (fun M v2 => ∀ (E : Ek) (k1 : Nat), Same E0 E → Apart E → k1 ≤ 4 → k1 = 0 → G E (xkz x0 k1 (xz x0)) M 34 [(0, .ref (ad E 1)), (1, .ref (ad E 3)), (2, .int v2)] []) (fun M v2 => ∀ (E : Ek) (k1 : Nat), Same E0 E → Apart E → k1 ≤ 4 → k1 ≤ v2.toNatClampNeg → G E (xkz x0 k1 (xz x0)) M 97 [(0, .ref (ad E 1)), (1, .ref (ad E 3)), (2, .int v2)] []) (fun M v2 => ∀ (E : Ek) (k1 : Nat), Same E0 E → Apart E → k1 ≤ 4 → True → G E (xkz x0 k1 (xz x0)) M 136 [(0, .ref (ad E 1)), (1, .ref (ad E 3)), (2, .int v2)] []) M v2) : G E (xkz x0 k1 (xz x0)) M 97 [(0, .ref (ad E 1)), (1, .ref (ad E 3)), (2, .int v2)] [] := by
  have X := X0.to hs ha (k := k1) (Nat.le_trans hk1 hQ.2.2.1)
  refine g_iload_n X dX6_readHouse_97 rfl 2 rfl ?_
  refine g_aload_n X dX6_readHouse_98 rfl 0 rfl ?_
  refine fg_X6_34 X dX6_readHouse_99 ?_
  refine g_icmpge (tgt := 134) X dX6_readHouse_102 (by decide) h (fun h => ?_) (fun h => ?_)
  · refine g_iconst (v := 0) X dX6_readHouse_134 (by decide) ?_
    refine g_istore_n (lv' := [(0, .ref (ad E 1)), (1, .ref (ad E 3)), (2, .int 0)]) X dX6_readHouse_135 rfl (Nat.le_of_ble_eq_true rfl) rfl rfl ?_
    exact (h E k1 hs ha hk1 trivial)
  · refine g_aload_n X dX6_readHouse_105 rfl 1 rfl ?_
    refine fg_X6_117 X dX6_readHouse_106 ?_
    refine g_iload_n X dX6_readHouse_109 rfl 2 rfl ?_
    refine g_aload_n X dX6_readHouse_110 rfl 0 rfl ?_
    refine g_str1 X dX6_readHouse_111 ?_
    refine g_aload_n X dX6_readHouse_113 rfl 0 rfl ?_
    refine cl_X6_91 X (by decide) (Nat.le_of_ble_eq_true rfl) dX6_readHouse_114 h (fun r16 M17 h => ?_)
    refine g_iconst (v := 4) X dX6_readHouse_117 (by decide) ?_
    refine g_iload_n X dX6_readHouse_118 rfl 2 rfl ?_
    refine g_imul X dX6_readHouse_119 ?_
    refine g_iadd X dX6_readHouse_120 ?_
    refine cl_X6_113 X (by decide) (by decide) (Nat.le_of_ble_eq_true rfl) dX6_readHouse_121 h (fun r18 M19 h => ?_)
    have hi := h.1
    refine g_newP X (by decide) (Nat.le_of_ble_eq_true rfl) (show k1 + 1 ≤ (xR x0).cells from by have := vp_lt hi; have := hQ.2.2.1; omega) dX6_readHouse_124 dX6_readHouse_127 h (fun F M20 hs2 ha2 h => ?_)
    have e1 := hs2.2.2.2.2.2 1 (by unfold Prs; omega)
    have e3 := hs2.2.2.2.2.2 3 (by unfold Prs; omega)
    have t := k_X6_readHouse_b128 X0 hQ (hs.tr hs2) ha2 (show k1 + 1 ≤ 4 from by have := vp_lt hi; omega) ⟨Nat.succ_le_succ hc, hi⟩ h
    rw [e1, e3] at t
    exact t
theorem k_X6_readHouse_b34 {E0 E : Ek} {x0 : MC} {k1 : Nat} (X0 : Cx E0 x0 cX6_readHouse 4 RX6 6) {Post : Mem → Prop} (hQ : QAV E0 x0 Post) (hs : Same E0 E) (ha : Apart E) (hk1 : k1 ≤ 4) {M : Mem} {v2 : Int32} (hc : k1 = 0) (h : wp_X6_readHouse_b34 Post (fun M v2 => ∀ (E : Ek) (k1 : Nat), Same E0 E → Apart E → k1 ≤ 4 → k1 = 0 → G E (xkz x0 k1 (xz x0)) M 34 [(0, .ref (ad E 1)), (1, .ref (ad E 3)), (2, .int v2)] []) (fun M v2 => ∀ (E : Ek) (k1 : Nat), Same E0 E → Apart E → k1 ≤ 4 → k1 ≤ v2.toNatClampNeg → G E (xkz x0 k1 (xz x0)) M 97 [(0, .ref (ad E 1)), (1, .ref (ad E 3)), (2, .int v2)] []) (fun M v2 => ∀ (E : Ek) (k1 : Nat), Same E0 E → Apart E → k1 ≤ 4 → True → G E (xkz x0 k1 (xz x0)) M 136 [(0, .ref (ad E 1)), (1, .ref (ad E 3)), (2, .int v2)] []) M v2) : G E (xkz x0 k1 (xz x0)) M 34 [(0, .ref (ad E 1)), (1, .ref (ad E 3)), (2, .int v2)] [] := by
  have X := X0.to hs ha (k := k1) (Nat.le_trans hk1 hQ.2.2.1)
  refine g_iload_n X dX6_readHouse_34 rfl 2 rfl ?_
  refine g_aload_n X dX6_readHouse_35 rfl 0 rfl ?_
  refine fg_X6_31 X dX6_readHouse_36 ?_
  refine g_icmpge (tgt := 95) X dX6_readHouse_39 (by decide) h (fun h => ?_) (fun h => ?_)
  · refine g_iconst (v := 0) X dX6_readHouse_95 (by decide) ?_
    refine g_istore_n (lv' := [(0, .ref (ad E 1)), (1, .ref (ad E 3)), (2, .int 0)]) X dX6_readHouse_96 rfl (Nat.le_of_ble_eq_true rfl) rfl rfl ?_
    exact (h E k1 hs ha hk1 (by rw [hc]; exact Nat.zero_le _))
  · refine g_iconst (v := 2) X dX6_readHouse_42 (by decide) ?_
    refine g_iconst (v := 4) X dX6_readHouse_43 (by decide) ?_
    refine g_iload_n X dX6_readHouse_44 rfl 2 rfl ?_
    refine g_imul X dX6_readHouse_45 ?_
    refine g_iadd X dX6_readHouse_46 ?_
    refine g_nm h (fun x3_5 h => ?_)
    refine g_istore_n (lv' := [(0, .ref (ad E 1)), (1, .ref (ad E 3)), (2, .int v2), (3, .int x3_5)]) X dX6_readHouse_47 rfl (Nat.le_of_ble_eq_true rfl) rfl rfl ?_
    refine g_aload_n X dX6_readHouse_48 rfl 1 rfl ?_
    refine fg_X6_101 X dX6_readHouse_49 ?_
    refine g_iload_n X dX6_readHouse_52 rfl 2 rfl ?_
    refine g_aload_n X dX6_readHouse_53 rfl 0 rfl ?_
    refine g_iload_n X dX6_readHouse_54 rfl 3 rfl ?_
    refine cl_X6_104 X (by decide) (Nat.le_of_ble_eq_true rfl) dX6_readHouse_55 h (fun r6 M7 h => ?_)
    refine g_iast X ia_4 dX6_readHouse_58 h (fun M8 h => ?_)
    refine g_aload_n X dX6_readHouse_59 rfl 1 rfl ?_
    refine fg_X6_107 X dX6_readHouse_60 ?_
    refine g_iload_n X dX6_readHouse_63 rfl 2 rfl ?_
    refine g_aload_n X dX6_readHouse_64 rfl 0 rfl ?_
    refine g_iload_n X dX6_readHouse_65 rfl 3 rfl ?_
    refine g_iconst (v := 1) X dX6_readHouse_66 (by decide) ?_
    refine g_iadd X dX6_readHouse_67 ?_
    refine cl_X6_104 X (by decide) (Nat.le_of_ble_eq_true rfl) dX6_readHouse_68 h (fun r9 M10 h => ?_)
    refine g_iast X ia_5 dX6_readHouse_71 h (fun M11 h => ?_)
    refine g_aload_n X dX6_readHouse_72 rfl 1 rfl ?_
    refine fg_X6_110 X dX6_readHouse_73 ?_
    refine g_iload_n X dX6_readHouse_76 rfl 2 rfl ?_
    refine g_aload_n X dX6_readHouse_77 rfl 0 rfl ?_
    refine g_str0 X dX6_readHouse_78 ?_
    refine g_iload_n X dX6_readHouse_80 rfl 3 rfl ?_
    refine g_iconst (v := 2) X dX6_readHouse_81 (by decide) ?_
    refine g_iadd X dX6_readHouse_82 ?_
    refine cl_X6_113 X (by decide) (by decide) (Nat.le_of_ble_eq_true rfl) dX6_readHouse_83 h (fun r12 M13 h => ?_)
    refine g_iconst (v := 1) X dX6_readHouse_86 (by decide) ?_
    refine g_isub X dX6_readHouse_87 ?_
    refine g_iast X ia_6 dX6_readHouse_88 h (fun M14 h => ?_)
    refine g_iinc (w := 1) X dX6_readHouse_89 2 rfl (by decide) (Nat.le_of_ble_eq_true rfl) rfl (fun x2_15 => [(0, .ref (ad E 1)), (1, .ref (ad E 3)), (2, .int x2_15), (3, .int x3_5)]) (fun _ => rfl) h (fun x2_15 h => ?_)
    refine g_goto (tgt := 34) X dX6_readHouse_92 (by decide) ?_
    exact g_sub [0, 1, 2] rfl (h E k1 hs ha hk1 hc)
theorem w_X6_readHouse (E : Ek) (l : Launch) {M : Mem} {Post : Mem → Prop} (h : wp_X6_readHouse Post M) : ctA E l yX6_readHouse cX6_readHouse 4 none 6 [.ref (ad E 1), .ref (ad E 3)] M (va_Qv (fun u : Ek × Mem => Same E u.1 ∧ Apart u.1 ∧ Post u.2) (fun u t => wdP u.1 u.2 t) (frE E)) := by
  refine ctA_of (by decide) (Nat.le_of_ble_eq_true rfl) (fun x0 X0 hQ => ?_)
  have hQ : QAV E x0 Post := hQ
  obtain ⟨E0, hE0⟩ : ∃ z, z = E := ⟨_, rfl⟩
  have hs : Same E0 E := by rw [hE0]; exact Same.rf E
  rw [← hE0] at hQ X0
  have ha : Apart E := by rw [← hE0]; exact X0.ap
  suffices main : ∀ k1 : Nat, k1 = 0 → G E (xkz x0 k1 (xz x0)) M 0 [(0, .ref (ad E 1)), (1, .ref (ad E 3))] [] from main 0 rfl
  intro k1 hk0
  have hk1 : k1 ≤ 4 := by omega
  have X := X0.to hs ha (k := k1) (by have := hQ.2.2.1; omega)
  have h := h (fun M v2 => ∀ (E : Ek) (k1 : Nat), Same E0 E → Apart E → k1 ≤ 4 → k1 = 0 → G E (xkz x0 k1 (xz x0)) M 34 [(0, .ref (ad E 1)), (1, .ref (ad E 3)), (2, .int v2)] []) (fun M v2 => ∀ (E : Ek) (k1 : Nat), Same E0 E → Apart E → k1 ≤ 4 → k1 ≤ v2.toNatClampNeg → G E (xkz x0 k1 (xz x0)) M 97 [(0, .ref (ad E 1)), (1, .ref (ad E 3)), (2, .int v2)] []) (fun M v2 => ∀ (E : Ek) (k1 : Nat), Same E0 E → Apart E → k1 ≤ 4 → True → G E (xkz x0 k1 (xz x0)) M 136 [(0, .ref (ad E 1)), (1, .ref (ad E 3)), (2, .int v2)] []) (fun M v2 h E k1 hs ha hk1 hc => k_X6_readHouse_b34 X0 hQ hs ha hk1 hc h) (fun M v2 h E k1 hs ha hk1 hc => k_X6_readHouse_b97 X0 hQ hs ha hk1 hc h) (fun M v2 h E k1 hs ha hk1 hc => k_X6_readHouse_b136 X0 hQ hs ha hk1 hc h)
  refine g_aload_n X dX6_readHouse_0 rfl 1 rfl ?_
  refine g_aload_n X dX6_readHouse_1 rfl 0 rfl ?_
  refine fg_X6_28 X dX6_readHouse_2 ?_
  refine fp_X6_95 X dX6_readHouse_5 h (fun M1 h => ?_)
  refine g_aload_n X dX6_readHouse_8 rfl 1 rfl ?_
  refine g_aload_n X dX6_readHouse_9 rfl 0 rfl ?_
  refine fg_X6_31 X dX6_readHouse_10 ?_
  refine fp_X6_98 X dX6_readHouse_13 h (fun M2 h => ?_)
  refine g_aload_n X dX6_readHouse_16 rfl 1 rfl ?_
  refine g_aload_n X dX6_readHouse_17 rfl 0 rfl ?_
  refine fg_X6_34 X dX6_readHouse_18 ?_
  refine fp_X6_99 X dX6_readHouse_21 h (fun M3 h => ?_)
  refine g_aload_n X dX6_readHouse_24 rfl 1 rfl ?_
  refine g_aload_n X dX6_readHouse_25 rfl 0 rfl ?_
  refine fg_X6_37 X dX6_readHouse_26 ?_
  refine fp_X6_100 X dX6_readHouse_29 h (fun M4 h => ?_)
  refine g_iconst (v := 0) X dX6_readHouse_32 (by decide) ?_
  refine g_istore_n (lv' := [(0, .ref (ad E 1)), (1, .ref (ad E 3)), (2, .int 0)]) X dX6_readHouse_33 rfl (Nat.le_of_ble_eq_true rfl) rfl rfl ?_
  exact (h E k1 hs ha hk1 hk0)
theorem g_callRH {E : Ek} {x : MC} {cc : ByteArray} {nL hm pc : Nat} {M : Mem} {lv : List (Nat × Value)} {st : List Value} (X : Cx E x cc nL RX11 hm) {Post : Mem → Prop} (hr : 6 < hm) (hW : (st.map fun v => v.category).sum ≤ 8) (hk : xk x + 4 ≤ (xR x).cells) (hd : decode cc pc = .ok (.invokevirtual 83, 3)) (h : wp_X6_readHouse Post M) (kk : ∀ (F : Ek) (M1 : Mem), Same E F → Apart F → Post M1 → G F (xkz x (xk x + 4) (xz x)) M1 (pc + 3) lv st) : G E x M pc lv (.ref (ad E 3) :: .ref (ad E 1) :: st) := fun H locs ls hP hS hL => by
  refine va_callv (va_runVN (As := [.ref (ad E 3)]) (rest := st) (C := RX6) ⟨X.ex, X.cb, X.ml, X.ow, X.hts⟩ (w_X6_readHouse E (xl x) h) ⟨va_cnB 1 X.hts (gt_GI cw_X6_readHouse.1) rfl rfl rfl (X.ge.2.1 _ h885 rfl) (X.hts _ cw_X6_readHouse.2.1) cw_X6_readHouse.2.2.2 (X.roomA hr cw_X6_readHouse.2.2.1), X.hts _ h886, X.hts _ h887⟩ ⟨(X.pre hP hS).1, X.recv (⟨by decide, fun E f h => ⟨_, _, _, rfl, rfl, rfl⟩⟩ : OC 1 RX6) hP, (X.pre hP hS).2⟩ rfl rfl (hL.1.trans X.nl) rfl (lv_room hW) hd ⟨hk, X.kz.2⟩) hS (fun _ _ h => h) (fun _ h => h) (fun u t H1 locs1 ht hvm hw hB hz1 hk1 hS1 => ?_)
  obtain ⟨h1, h2, h3⟩ := hw
  exact kk u.1 u.2 h1 h2 h3 H1 locs1 ls (by rw [← ht, h1.1]; have := hB; unfold wdP at this; rw [h1.1] at this; exact this) (by rw [h1.fr]; exact hS1) hL
theorem cw_X11_house : CW yX11_house cX11_house 1 (some .int) 0 := ⟨h884, m10, Nat.le_of_ble_eq_true rfl, by decide +kernel⟩
def wp_X11_house_b31 (Post : Int32 → Mem → Prop) (M : Mem) : Prop :=
 wp_X6_readAffairs (fun M5 =>
  ∀ M6 : Mem, M6 = wr M5 1 1 0 →
  ∀ M7 : Mem, M7 = wr M6 0 8 0 →
  ∀ M8 : Mem, M8 = wr M7 0 9 ((rd M7 0 9) + 1) →
  Post (rd M8 3 2) M8) M 59
def wp_X11_house (Post : Int32 → Mem → Prop) (M : Mem) : Prop :=
 wp_X6_scan (fun M2 =>
  (¬ (rd M2 1 3) = 0 →
   wp_X6_readHouse (fun M3 =>
    wp_X11_house_b31 Post M3) M2) ∧
  ((rd M2 1 3) = 0 →
   Post (-103) M2)) M 
theorem k_X11_house_b31 {E0 E : Ek} {x0 : MC} {k1 : Nat} (X0 : Cx E0 x0 cX11_house 1 RX11 8) {Post : Int32 → Mem → Prop} (hQ : QAI E0 x0 Post) (hs : Same E0 E) (ha : Apart E) (hk1 : k1 ≤ 4) {M : Mem} (hc : True) (h : wp_X11_house_b31 Post M ) : G E (xkz x0 k1 (xz x0)) M 31 [(0, .ref (ad E 0))] [] := by
  have X := X0.to hs ha (k := k1) (Nat.le_trans hk1 hQ.2.2.1)
  refine g_aload_n X dX11_house_31 rfl 0 rfl ?_
  refine fg_X11_10 X dX11_house_32 ?_
  refine g_aload_n X dX11_house_35 rfl 0 rfl ?_
  refine fg_X11_28 X dX11_house_36 ?_
  refine cl_X11_86 X aff_59 (by decide) (Nat.le_of_ble_eq_true rfl) dX11_house_39 h (fun M5 h => ?_)
  refine g_aload_n X dX11_house_42 rfl 0 rfl ?_
  refine fg_X11_10 X dX11_house_43 ?_
  refine g_iconst (v := 0) X dX11_house_46 (by decide) ?_
  refine fp_X11_71 X dX11_house_47 h (fun M6 h => ?_)
  refine g_aload_n X dX11_house_50 rfl 0 rfl ?_
  refine g_iconst (v := 0) X dX11_house_51 (by decide) ?_
  refine fp_X11_59 X (Or.inl rfl) dX11_house_52 h (fun M7 h => ?_)
  refine g_aload_n X dX11_house_55 rfl 0 rfl ?_
  refine g_dup X dX11_house_56 rfl ?_
  refine fg_X11_63 X dX11_house_57 ?_
  refine g_iconst (v := 1) X dX11_house_60 (by decide) ?_
  refine g_iadd X dX11_house_61 ?_
  refine fp_X11_63 X dX11_house_62 h (fun M8 h => ?_)
  refine g_aload_n X dX11_house_65 rfl 0 rfl ?_
  refine fg_X11_19 X dX11_house_66 ?_
  refine fg_X11_90 X dX11_house_69 ?_
  exact g_iretA X hQ hs ha hk1 dX11_house_72 h
theorem w_X11_house (E : Ek) (l : Launch) {M : Mem} {Post : Int32 → Mem → Prop} (h : wp_X11_house Post M) : ctA E l yX11_house cX11_house 1 (some .int) 8 [.ref (ad E 0)] M (va_Qi (fun r (u : Ek × Mem) => Same E u.1 ∧ Apart u.1 ∧ Post r u.2) (fun u t => wdP u.1 u.2 t) (frE E)) := by
  refine ctA_of (by decide) (Nat.le_of_ble_eq_true rfl) (fun x0 X0 hQ => ?_)
  have hQ : QAI E x0 Post := hQ
  obtain ⟨E0, hE0⟩ : ∃ z, z = E := ⟨_, rfl⟩
  have hs : Same E0 E := by rw [hE0]; exact Same.rf E
  rw [← hE0] at hQ X0
  have ha : Apart E := by rw [← hE0]; exact X0.ap
  suffices main : ∀ k1 : Nat, k1 = 0 → G E (xkz x0 k1 (xz x0)) M 0 [(0, .ref (ad E 0))] [] from main 0 rfl
  intro k1 hk0
  have hk1 : k1 ≤ 4 := by omega
  have X := X0.to hs ha (k := k1) (by have := hQ.2.2.1; omega)
  refine g_aload_n X dX11_house_0 rfl 0 rfl ?_
  refine fg_X11_10 X dX11_house_1 ?_
  refine cl_X11_74 X (by decide) (Nat.le_of_ble_eq_true rfl) dX11_house_4 h (fun M2 h => ?_)
  refine g_aload_n X dX11_house_7 rfl 0 rfl ?_
  refine fg_X11_10 X dX11_house_8 ?_
  refine fg_X11_80 X dX11_house_11 ?_
  refine g_ifne (tgt := 20) X dX11_house_14 (by decide) h (fun h => ?_) (fun h => ?_)
  · refine g_aload_n X dX11_house_20 rfl 0 rfl ?_
    refine fg_X11_10 X dX11_house_21 ?_
    refine g_aload_n X dX11_house_24 rfl 0 rfl ?_
    refine fg_X11_19 X dX11_house_25 ?_
    refine g_callRH X (by decide) (Nat.le_of_ble_eq_true rfl) (show k1 + 4 ≤ (xR x0).cells from by have := hQ.2.2.1; omega) dX11_house_28 h (fun F M3 hs2 ha2 h => ?_)
    have e0 := hs2.2.2.2.2.2 0 (by unfold Prs; omega)
    have t := k_X11_house_b31 X0 hQ (hs.tr hs2) ha2 (show k1 + 4 ≤ 4 from by omega) trivial h
    rw [e0] at t
    exact t
  · refine g_bipush (v := (-103)) X dX11_house_17 (by decide) ?_
    exact g_iretA X hQ hs ha hk1 dX11_house_19 h
