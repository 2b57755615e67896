theorem m0 : Cond.fieldLink RX6 15 "DebtRooms$Page" "length" "I" ∈ gt := gt_t (tb_1 37 rfl) rfl
theorem m1 : Cond.fieldLink RX6 9 "DebtRooms$Page" "letters" "[I" ∈ gt := gt_t (tb_1 35 rfl) rfl
theorem m2 : Cond.code yX6_append cX6_append 2 (some .boolean) ∈ gt := gt_t (tb_2 87 rfl) rfl
theorem m3 : Cond.initialized RX6 ∈ gt := gt_t (tb_1 2 rfl) rfl
theorem m4 : Cond.fieldLink RX11 10 "DebtRooms" "page" "LDebtRooms$Page;" ∈ gt := gt_t (tb_2 49 rfl) rfl
theorem m5 : Cond.methodLinkNest RX11 67 yX6_append "DebtRooms" ∈ tables_1 := tb_2 84 rfl
theorem m6 : Cond.instanceMethod yX6_append ∈ gt := gt_t (tb_2 86 rfl) rfl
theorem m7 : Cond.selects RX6 yX6_append yX6_append ∈ gt := gt_s (pr_s (q := (yX6_append, 11)) (List.mem_of_getElem? (i := 0) rfl)) rfl
theorem m8 : Cond.fieldLinkNest RX11 71 "DebtRooms$Page" "length" "I" "DebtRooms" ∈ tables_1 := tb_1 38 rfl
theorem m9 : Cond.code yX11_letter cX11_letter 2 (some .int) ∈ gt := gt_t (tb_2 83 rfl) rfl
theorem m10 : Cond.initialized RX11 ∈ gt := gt_t (tb_1 1 rfl) rfl
theorem m11 : Cond.code yX11_blank cX11_blank 2 (some .int) ∈ gt := gt_t (tb_2 91 rfl) rfl
theorem m12 : Cond.fieldLink RX6 22 "DebtRooms$Page" "field" "I" ∈ gt := gt_t (tb_1 44 rfl) rfl
theorem m13 : Cond.code yX6_takesIf cX6_takesIf 2 (some .boolean) ∈ gt := gt_t (tb_2 111 rfl) rfl
theorem m14 : Cond.fieldLink RX6 19 "DebtRooms$Page" "part" "I" ∈ gt := gt_t (tb_1 43 rfl) rfl
theorem m15 : Cond.code yX6_opens cX6_opens 2 (some .boolean) ∈ gt := gt_t (tb_2 115 rfl) rfl
theorem m16 : Cond.methodLink RX6 67 yX6_opens ∈ gt := gt_t (tb_2 112 rfl) rfl
theorem m17 : Cond.instanceMethod yX6_opens ∈ gt := gt_t (tb_2 114 rfl) rfl
theorem m18 : Cond.selects RX6 yX6_opens yX6_opens ∈ gt := gt_s (pr_s (q := (yX6_opens, 11)) (List.mem_of_getElem? (i := 5) rfl)) rfl
theorem m19 : Cond.fieldLink RX6 28 "DebtRooms$Page" "rooms" "I" ∈ gt := gt_t (tb_1 46 rfl) rfl
theorem m20 : Cond.methodLink RX6 63 yX6_takesIf ∈ gt := gt_t (tb_2 108 rfl) rfl
theorem m21 : Cond.instanceMethod yX6_takesIf ∈ gt := gt_t (tb_2 110 rfl) rfl
theorem m22 : Cond.selects RX6 yX6_takesIf yX6_takesIf ∈ gt := gt_s (pr_s (q := (yX6_takesIf, 11)) (List.mem_of_getElem? (i := 4) rfl)) rfl
theorem m23 : Cond.code yX6_takesInRooms cX6_takesInRooms 2 (some .boolean) ∈ gt := gt_t (tb_2 107 rfl) rfl
theorem m24 : Cond.code yX6_isDigitBelow cX6_isDigitBelow 2 (some .boolean) ∈ gt := gt_t (tb_2 126 rfl) rfl
theorem m25 : Cond.fieldLink RX6 25 "DebtRooms$Page" "first" "I" ∈ gt := gt_t (tb_1 45 rfl) rfl
theorem m26 : Cond.methodLink RX6 88 yX6_isDigitBelow ∈ gt := gt_t (tb_2 124 rfl) rfl
theorem m27 : Cond.static yX6_isDigitBelow ∈ gt := gt_t (tb_2 125 rfl) rfl
theorem m28 : Cond.code yX6_takesFirst cX6_takesFirst 3 (some .boolean) ∈ gt := gt_t (tb_2 123 rfl) rfl
theorem m29 : Cond.code yX6_takesOther cX6_takesOther 3 (some .boolean) ∈ gt := gt_t (tb_2 130 rfl) rfl
theorem m30 : Cond.fieldLink RJ0 38 "java/lang/String" "COMPACT_STRINGS" "Z" ∈ gt := gt_t (tb_2 144 rfl) rfl
theorem m31 : Cond.fieldLink RJ0 15 "java/lang/String" "coder" "B" ∈ gt := gt_t (tb_6 168 rfl) rfl
theorem m32 : Cond.code yJ0_isLatin1_aae02 cJ0_isLatin1_aae02 1 (some .boolean) ∈ gt := gt_t (tb_2 143 rfl) rfl
theorem m33 : Cond.initialized RJ0 ∈ gt := gt_t (tb_1 10 rfl) rfl
theorem m34 : Cond.code yJ0_coder_7d493 cJ0_coder_7d493 1 (some .byte) ∈ gt := gt_t (tb_2 153 rfl) rfl
theorem m35 : Cond.fieldLink RJ0 9 "java/lang/String" "value" "[B" ∈ gt := gt_t (tb_6 169 rfl) rfl
theorem m36 : Cond.methodLink RJ0 335 yJ0_coder_7d493 ∈ gt := gt_t (tb_2 150 rfl) rfl
theorem m37 : Cond.instanceMethod yJ0_coder_7d493 ∈ gt := gt_t (tb_2 151 rfl) rfl
theorem m38 : Cond.selects RJ0 yJ0_coder_7d493 yJ0_coder_7d493 ∈ gt := gt_t (tb_2 152 rfl) rfl
theorem m39 : Cond.code yJ0_length_8abf5 cJ0_length_8abf5 1 (some .int) ∈ gt := gt_t (tb_2 149 rfl) rfl
theorem m40 : Cond.code yJ1_canEncode_9a6ad cJ1_canEncode_9a6ad 1 (some .boolean) ∈ gt := gt_t (tb_2 159 rfl) rfl
theorem m41 : Cond.initialized RJ1 ∈ gt := gt_t (tb_1 11 rfl) rfl
theorem m42 : Cond.code yJ1_indexOfChar_4cfef cJ1_indexOfChar_4cfef 6 (some .int) ∈ gt := gt_t (tb_2 168 rfl) rfl
theorem m43 : Cond.methodLink RJ1 88 yJ1_canEncode_9a6ad ∈ gt := gt_t (tb_2 157 rfl) rfl
theorem m44 : Cond.static yJ1_canEncode_9a6ad ∈ gt := gt_t (tb_2 158 rfl) rfl
theorem ma45 : Cond.methodLink RJ1 92 Lib.Math.max.name ∈ gt := gt_t (tb_2 160 (by decide +kernel)) rfl
theorem ma46 : Cond.static Lib.Math.max.name ∈ gt := gt_t (tb_2 161 (by decide +kernel)) rfl
theorem ma47 : Cond.code Lib.Math.max.name Lib.Math.max.code 2 (some .int) ∈ gt := gt_t (tb_2 162 (by decide +kernel)) rfl
theorem ma48 : Cond.initialized "java/lang/Math" ∈ gt := gt_t (tb_1 12 (by decide +kernel)) rfl
theorem ma49 : Cond.methodLink RJ1 38 Lib.Math.min.name ∈ gt := gt_t (tb_2 163 (by decide +kernel)) rfl
theorem ma50 : Cond.static Lib.Math.min.name ∈ gt := gt_t (tb_2 164 (by decide +kernel)) rfl
theorem ma51 : Cond.code Lib.Math.min.name Lib.Math.min.code 2 (some .int) ∈ gt := gt_t (tb_2 165 (by decide +kernel)) rfl
theorem ma52 : Cond.initialized "java/lang/Math" ∈ gt := gt_t (tb_1 12 (by decide +kernel)) rfl
theorem m53 : Cond.methodLink RJ1 95 yJ1_indexOfChar_4cfef ∈ gt := gt_t (tb_2 166 rfl) rfl
theorem m54 : Cond.static yJ1_indexOfChar_4cfef ∈ gt := gt_t (tb_2 167 rfl) rfl
theorem m55 : Cond.code yJ1_indexOf_4cfef cJ1_indexOf_4cfef 4 (some .int) ∈ gt := gt_t (tb_2 156 rfl) rfl
theorem m56 : Cond.methodLink RJ0 492 yJ0_isLatin1_aae02 ∈ gt := gt_t (tb_2 140 rfl) rfl
theorem m57 : Cond.instanceMethod yJ0_isLatin1_aae02 ∈ gt := gt_t (tb_2 141 rfl) rfl
theorem m58 : Cond.selects RJ0 yJ0_isLatin1_aae02 yJ0_isLatin1_aae02 ∈ gt := gt_t (tb_2 142 rfl) rfl
theorem m59 : Cond.methodLink RJ0 505 yJ0_length_8abf5 ∈ gt := gt_t (tb_2 146 rfl) rfl
theorem m60 : Cond.instanceMethod yJ0_length_8abf5 ∈ gt := gt_t (tb_2 147 rfl) rfl
theorem m61 : Cond.selects RJ0 yJ0_length_8abf5 yJ0_length_8abf5 ∈ gt := gt_t (tb_2 148 rfl) rfl
theorem m62 : Cond.methodLink RJ0 637 yJ1_indexOf_4cfef ∈ gt := gt_t (tb_2 154 rfl) rfl
theorem m63 : Cond.static yJ1_indexOf_4cfef ∈ gt := gt_t (tb_2 155 rfl) rfl
theorem m64 : Cond.code yJ0_indexOf_7cf53 cJ0_indexOf_7cf53 3 (some .int) ∈ gt := gt_t (tb_2 139 rfl) rfl
theorem m65 : Cond.methodLink RJ0 633 yJ0_indexOf_7cf53 ∈ gt := gt_t (tb_2 136 rfl) rfl
theorem m66 : Cond.instanceMethod yJ0_indexOf_7cf53 ∈ gt := gt_t (tb_2 137 rfl) rfl
theorem m67 : Cond.selects RJ0 yJ0_indexOf_7cf53 yJ0_indexOf_7cf53 ∈ gt := gt_t (tb_2 138 rfl) rfl
theorem m68 : Cond.code yJ0_indexOf_0f7a4 cJ0_indexOf_0f7a4 2 (some .int) ∈ gt := gt_t (tb_2 135 rfl) rfl
theorem m69 : Cond.methodLink RX6 71 yX6_takesFirst ∈ gt := gt_t (tb_2 120 rfl) rfl
theorem m70 : Cond.instanceMethod yX6_takesFirst ∈ gt := gt_t (tb_2 122 rfl) rfl
theorem m71 : Cond.selects RX6 yX6_takesFirst yX6_takesFirst ∈ gt := gt_s (pr_s (q := (yX6_takesFirst, 11)) (List.mem_of_getElem? (i := 7) rfl)) rfl
theorem m72 : Cond.methodLink RX6 75 yX6_takesOther ∈ gt := gt_t (tb_2 127 rfl) rfl
theorem m73 : Cond.instanceMethod yX6_takesOther ∈ gt := gt_t (tb_2 129 rfl) rfl
theorem m74 : Cond.selects RX6 yX6_takesOther yX6_takesOther ∈ gt := gt_s (pr_s (q := (yX6_takesOther, 11)) (List.mem_of_getElem? (i := 8) rfl)) rfl
theorem m75 : Cond.fieldLink RX6 31 "DebtRooms$Page" "doors" "I" ∈ gt := gt_t (tb_1 47 rfl) rfl
theorem m76 : Cond.methodLink RX6 80 yJ0_indexOf_0f7a4 ∈ gt := gt_t (tb_2 132 rfl) rfl
theorem m77 : Cond.instanceMethod yJ0_indexOf_0f7a4 ∈ gt := gt_t (tb_2 133 rfl) rfl
theorem m78 : Cond.selects RJ0 yJ0_indexOf_0f7a4 yJ0_indexOf_0f7a4 ∈ gt := gt_t (tb_2 134 rfl) rfl
theorem m79 : Cond.code yX6_takesInDoors cX6_takesInDoors 2 (some .boolean) ∈ gt := gt_t (tb_2 119 rfl) rfl
theorem m80 : Cond.fieldLink RX6 34 "DebtRooms$Page" "people" "I" ∈ gt := gt_t (tb_1 48 rfl) rfl
theorem m81 : Cond.code yX6_takesInPeople cX6_takesInPeople 2 (some .boolean) ∈ gt := gt_t (tb_2 221 rfl) rfl
theorem m82 : Cond.fieldLink RX6 37 "DebtRooms$Page" "debts" "I" ∈ gt := gt_t (tb_1 49 rfl) rfl
theorem m83 : Cond.code yX6_takesInDebts cX6_takesInDebts 2 (some .boolean) ∈ gt := gt_t (tb_2 226 rfl) rfl
theorem m84 : Cond.methodLink RX6 51 yX6_takesInRooms ∈ gt := gt_t (tb_2 104 rfl) rfl
theorem m85 : Cond.instanceMethod yX6_takesInRooms ∈ gt := gt_t (tb_2 106 rfl) rfl
theorem m86 : Cond.selects RX6 yX6_takesInRooms yX6_takesInRooms ∈ gt := gt_s (pr_s (q := (yX6_takesInRooms, 11)) (List.mem_of_getElem? (i := 3) rfl)) rfl
theorem m87 : Cond.methodLink RX6 54 yX6_takesInDoors ∈ gt := gt_t (tb_2 116 rfl) rfl
theorem m88 : Cond.instanceMethod yX6_takesInDoors ∈ gt := gt_t (tb_2 118 rfl) rfl
theorem m89 : Cond.selects RX6 yX6_takesInDoors yX6_takesInDoors ∈ gt := gt_s (pr_s (q := (yX6_takesInDoors, 11)) (List.mem_of_getElem? (i := 6) rfl)) rfl
theorem m90 : Cond.methodLink RX6 57 yX6_takesInPeople ∈ gt := gt_t (tb_2 218 rfl) rfl
theorem m91 : Cond.instanceMethod yX6_takesInPeople ∈ gt := gt_t (tb_2 220 rfl) rfl
theorem m92 : Cond.selects RX6 yX6_takesInPeople yX6_takesInPeople ∈ gt := gt_s (pr_s (q := (yX6_takesInPeople, 11)) (List.mem_of_getElem? (i := 9) rfl)) rfl
theorem m93 : Cond.methodLink RX6 60 yX6_takesInDebts ∈ gt := gt_t (tb_2 223 rfl) rfl
theorem m94 : Cond.instanceMethod yX6_takesInDebts ∈ gt := gt_t (tb_2 225 rfl) rfl
theorem m95 : Cond.selects RX6 yX6_takesInDebts yX6_takesInDebts ∈ gt := gt_s (pr_s (q := (yX6_takesInDebts, 11)) (List.mem_of_getElem? (i := 10) rfl)) rfl
theorem m96 : Cond.code yX6_takes cX6_takes 2 (some .boolean) ∈ gt := gt_t (tb_2 103 rfl) rfl
theorem m97 : Cond.fieldLink RX6 40 "DebtRooms$Page" "isWhole" "Z" ∈ gt := gt_t (tb_1 41 rfl) rfl
theorem m98 : Cond.fieldLink RX6 48 "DebtRooms$Page" "faultAt" "I" ∈ gt := gt_t (tb_1 39 rfl) rfl
theorem m99 : Cond.methodLink RX6 44 yX6_takes ∈ gt := gt_t (tb_2 100 rfl) rfl
theorem m100 : Cond.instanceMethod yX6_takes ∈ gt := gt_t (tb_2 102 rfl) rfl
theorem m101 : Cond.selects RX6 yX6_takes yX6_takes ∈ gt := gt_s (pr_s (q := (yX6_takes, 11)) (List.mem_of_getElem? (i := 2) rfl)) rfl
theorem m102 : Cond.code yX6_scan cX6_scan 2 none ∈ gt := gt_t (tb_2 99 rfl) rfl
theorem m103 : Cond.methodLinkNest RX11 74 yX6_scan "DebtRooms" ∈ tables_1 := tb_2 96 rfl
theorem m104 : Cond.instanceMethod yX6_scan ∈ gt := gt_t (tb_2 98 rfl) rfl
theorem m105 : Cond.selects RX6 yX6_scan yX6_scan ∈ gt := gt_s (pr_s (q := (yX6_scan, 11)) (List.mem_of_getElem? (i := 1) rfl)) rfl
theorem m106 : Cond.fieldLinkNest RX11 77 "DebtRooms$Page" "faultAt" "I" "DebtRooms" ∈ tables_1 := tb_1 40 rfl
theorem m107 : Cond.code yX11_fault cX11_fault 1 (some .int) ∈ gt := gt_t (tb_2 95 rfl) rfl
theorem m108 : Cond.code yX6_digitAt cX6_digitAt 2 (some .int) ∈ gt := gt_t (tb_2 239 rfl) rfl
theorem m109 : Cond.code yX6_placeIn cX6_placeIn 3 (some .int) ∈ gt := gt_t (tb_3 3 rfl) rfl
theorem m110 : Cond.code yX6_peopleAt cX6_peopleAt 1 (some .int) ∈ gt := gt_t (tb_3 7 rfl) rfl
theorem m111 : Cond.methodLink RX6 91 yX6_peopleAt ∈ gt := gt_t (tb_3 4 rfl) rfl
theorem m112 : Cond.instanceMethod yX6_peopleAt ∈ gt := gt_t (tb_3 6 rfl) rfl
theorem m113 : Cond.selects RX6 yX6_peopleAt yX6_peopleAt ∈ gt := gt_s (pr_s (q := (yX6_peopleAt, 11)) (List.mem_of_getElem? (i := 14) rfl)) rfl
theorem m114 : Cond.code yX6_debtsAt cX6_debtsAt 1 (some .int) ∈ gt := gt_t (tb_3 42 rfl) rfl
theorem m115 : Cond.fieldLinkNest RX6 137 "DebtRooms$Affairs" "purse" "[I" "DebtRooms" ∈ tables_1 := tb_1 166 rfl
theorem m116 : Cond.methodLink RX6 104 yX6_digitAt ∈ gt := gt_t (tb_2 236 rfl) rfl
theorem m117 : Cond.instanceMethod yX6_digitAt ∈ gt := gt_t (tb_2 238 rfl) rfl
theorem m118 : Cond.selects RX6 yX6_digitAt yX6_digitAt ∈ gt := gt_s (pr_s (q := (yX6_digitAt, 11)) (List.mem_of_getElem? (i := 12) rfl)) rfl
theorem m119 : Cond.fieldLinkNest RX6 142 "DebtRooms$Affairs" "room" "[I" "DebtRooms" ∈ tables_1 := tb_1 170 rfl
theorem m120 : Cond.fieldLinkNest RX6 145 "DebtRooms$Affairs" "sum" "[I" "DebtRooms" ∈ tables_1 := tb_1 177 rfl
theorem m121 : Cond.methodLink RX6 125 yX6_debtsAt ∈ gt := gt_t (tb_3 39 rfl) rfl
theorem m122 : Cond.instanceMethod yX6_debtsAt ∈ gt := gt_t (tb_3 41 rfl) rfl
theorem m123 : Cond.selects RX6 yX6_debtsAt yX6_debtsAt ∈ gt := gt_s (pr_s (q := (yX6_debtsAt, 11)) (List.mem_of_getElem? (i := 15) rfl)) rfl
theorem m124 : Cond.fieldLinkNest RX6 148 "DebtRooms$Affairs" "paid" "[Z" "DebtRooms" ∈ tables_1 := tb_1 181 rfl
theorem m125 : Cond.fieldLinkNest RX6 155 "DebtRooms$Affairs" "gone" "I" "DebtRooms" ∈ tables_1 := tb_1 191 rfl
theorem m126 : Cond.fieldLinkNest RX6 158 "DebtRooms$Affairs" "seen" "I" "DebtRooms" ∈ tables_1 := tb_1 187 rfl
theorem m127 : Cond.fieldLinkNest RX6 152 "DebtRooms$Affairs" "holder" "[I" "DebtRooms" ∈ tables_1 := tb_1 173 rfl
theorem m128 : Cond.code yX6_readAffairs cX6_readAffairs 4 none ∈ gt := gt_t (tb_3 46 rfl) rfl
theorem m129 : Cond.fieldLink RX11 19 "DebtRooms" "plan" "LDebtRooms$House;" ∈ gt := gt_t (tb_2 50 rfl) rfl
theorem m130 : Cond.fieldLinkNest RX11 90 "DebtRooms$House" "people" "I" "DebtRooms" ∈ tables_1 := tb_1 96 rfl
theorem m131 : Cond.code yX11_isNobody cX11_isNobody 2 (some .boolean) ∈ gt := gt_t (tb_3 54 rfl) rfl
theorem m132 : Cond.code yX1_number cX1_number 1 (some .int) ∈ gt := gt_t (tb_3 61 rfl) rfl
theorem m133 : Cond.initialized RX1 ∈ gt := gt_t (tb_1 17 rfl) rfl
theorem m134 : Cond.code yX2_number cX2_number 1 (some .int) ∈ gt := gt_t (tb_3 64 rfl) rfl
theorem m135 : Cond.initialized RX2 ∈ gt := gt_t (tb_1 19 rfl) rfl
theorem m136 : Cond.code yX3_number cX3_number 1 (some .int) ∈ gt := gt_t (tb_3 67 rfl) rfl
theorem m137 : Cond.initialized RX3 ∈ gt := gt_t (tb_1 18 rfl) rfl
theorem m138 : Cond.code yX7_number cX7_number 1 (some .int) ∈ gt := gt_t (tb_3 71 rfl) rfl
theorem m139 : Cond.initialized RX7 ∈ gt := gt_t (tb_1 4 rfl) rfl
theorem m140 : Cond.code yX8_number cX8_number 1 (some .int) ∈ gt := gt_t (tb_3 70 rfl) rfl
theorem m141 : Cond.initialized RX8 ∈ gt := gt_t (tb_1 16 rfl) rfl
theorem m142 : Cond.fieldLink RX0 18 "DebtRooms$Affairs" "holder" "[I" ∈ gt := gt_t (tb_1 171 rfl) rfl
theorem m143 : Cond.code yX0_keyBits cX0_keyBits 4 (some .int) ∈ gt := gt_t (tb_3 75 rfl) rfl
theorem m144 : Cond.initialized RX0 ∈ gt := gt_t (tb_1 5 rfl) rfl
theorem m145 : Cond.fieldLink RX4 9 "DebtRooms$House" "oneEnd" "[I" ∈ gt := gt_t (tb_1 103 rfl) rfl
theorem m146 : Cond.fieldLink RX4 15 "DebtRooms$House" "otherEnd" "[I" ∈ gt := gt_t (tb_1 107 rfl) rfl
theorem m147 : Cond.code yX4_doorEndsAt cX4_doorEndsAt 3 (some .boolean) ∈ gt := gt_t (tb_3 87 rfl) rfl
theorem m148 : Cond.initialized RX4 ∈ gt := gt_t (tb_1 3 rfl) rfl
theorem m149 : Cond.code yX1_passes cX1_passes 3 (some .boolean) ∈ gt := gt_t (tb_3 98 rfl) rfl
theorem m150 : Cond.code yX7_passes cX7_passes 3 (some .boolean) ∈ gt := gt_t (tb_3 104 rfl) rfl
theorem m151 : Cond.code yX8_passes cX8_passes 3 (some .boolean) ∈ gt := gt_t (tb_3 101 rfl) rfl
theorem m152 : Cond.fieldLink RX0 34 "DebtRooms$Affairs" "plan" "LDebtRooms$House;" ∈ gt := gt_t (tb_1 163 rfl) rfl
theorem m153 : Cond.fieldLinkNest RX0 45 "DebtRooms$House" "lock" "[I" "DebtRooms" ∈ tables_1 := tb_1 112 rfl
theorem m154 : Cond.fieldLinkNest RX0 50 "DebtRooms$House" "kinds" "[LDebtRooms$Person;" "DebtRooms" ∈ tables_1 := tb_1 116 rfl
theorem m155 : Cond.code yX0_mayPass cX0_mayPass 6 (some .boolean) ∈ gt := gt_t (tb_3 91 rfl) rfl
theorem m156 : Cond.fieldLink RX0 15 "DebtRooms$Affairs" "room" "[I" ∈ gt := gt_t (tb_1 167 rfl) rfl
theorem m157 : Cond.methodLinkNest RX0 60 yX4_doorEndsAt "DebtRooms" ∈ tables_1 := tb_3 84 rfl
theorem m158 : Cond.instanceMethod yX4_doorEndsAt ∈ gt := gt_t (tb_3 86 rfl) rfl
theorem m159 : Cond.selects RX4 yX4_doorEndsAt yX4_doorEndsAt ∈ gt := gt_s (pr_s (q := (yX4_doorEndsAt, 11)) (List.mem_of_getElem? (i := 21) rfl)) rfl
theorem m160 : Cond.methodLink RX0 64 yX0_mayPass ∈ gt := gt_t (tb_3 88 rfl) rfl
theorem m161 : Cond.instanceMethod yX0_mayPass ∈ gt := gt_t (tb_3 90 rfl) rfl
theorem m162 : Cond.selects RX0 yX0_mayPass yX0_mayPass ∈ gt := gt_s (pr_s (q := (yX0_mayPass, 10)) (List.mem_of_getElem? (i := 22) rfl)) rfl
theorem m163 : Cond.code yX0_mayGo cX0_mayGo 3 (some .boolean) ∈ gt := gt_t (tb_3 83 rfl) rfl
theorem m164 : Cond.fieldLinkNest RX0 118 "DebtRooms$House" "doors" "I" "DebtRooms" ∈ tables_1 := tb_1 93 rfl
theorem m165 : Cond.methodLink RX0 121 yX0_mayGo ∈ gt := gt_t (tb_3 80 rfl) rfl
theorem m166 : Cond.instanceMethod yX0_mayGo ∈ gt := gt_t (tb_3 82 rfl) rfl
theorem m167 : Cond.selects RX0 yX0_mayGo yX0_mayGo ∈ gt := gt_s (pr_s (q := (yX0_mayGo, 10)) (List.mem_of_getElem? (i := 20) rfl)) rfl
theorem m168 : Cond.code yX0_doorBits cX0_doorBits 4 (some .int) ∈ gt := gt_t (tb_3 79 rfl) rfl
theorem m169 : Cond.code yX2_costOfSum cX2_costOfSum 2 (some .int) ∈ gt := gt_t (tb_3 124 rfl) rfl
theorem m170 : Cond.code yX7_costOfSum cX7_costOfSum 2 (some .int) ∈ gt := gt_t (tb_3 129 rfl) rfl
theorem m171 : Cond.code yX8_costOfSum cX8_costOfSum 2 (some .int) ∈ gt := gt_t (tb_3 128 rfl) rfl
theorem m172 : Cond.fieldLinkNest RX0 71 "DebtRooms$House" "debtor" "[I" "DebtRooms" ∈ tables_1 := tb_1 121 rfl
theorem m173 : Cond.fieldLink RX0 21 "DebtRooms$Affairs" "sum" "[I" ∈ gt := gt_t (tb_1 174 rfl) rfl
theorem m174 : Cond.code yX0_costOf cX0_costOf 2 (some .int) ∈ gt := gt_t (tb_3 116 rfl) rfl
theorem m175 : Cond.code yX3_mayPayFrom cX3_mayPayFrom 3 (some .boolean) ∈ gt := gt_t (tb_3 140 rfl) rfl
theorem m176 : Cond.code yX7_mayPayFrom cX7_mayPayFrom 3 (some .boolean) ∈ gt := gt_t (tb_3 142 rfl) rfl
theorem m177 : Cond.code yX8_mayPayFrom cX8_mayPayFrom 3 (some .boolean) ∈ gt := gt_t (tb_3 137 rfl) rfl
theorem m178 : Cond.fieldLink RX0 24 "DebtRooms$Affairs" "paid" "[Z" ∈ gt := gt_t (tb_1 178 rfl) rfl
theorem m179 : Cond.fieldLink RX0 9 "DebtRooms$Affairs" "purse" "[I" ∈ gt := gt_t (tb_1 164 rfl) rfl
theorem m180 : Cond.methodLink RX0 78 yX0_costOf ∈ gt := gt_t (tb_3 113 rfl) rfl
theorem m181 : Cond.instanceMethod yX0_costOf ∈ gt := gt_t (tb_3 115 rfl) rfl
theorem m182 : Cond.selects RX0 yX0_costOf yX0_costOf ∈ gt := gt_s (pr_s (q := (yX0_costOf, 10)) (List.mem_of_getElem? (i := 25) rfl)) rfl
theorem m183 : Cond.fieldLinkNest RX0 81 "DebtRooms$House" "debtRoom" "[I" "DebtRooms" ∈ tables_1 := tb_1 131 rfl
theorem m184 : Cond.fieldLinkNest RX0 84 "DebtRooms$House" "creditor" "[I" "DebtRooms" ∈ tables_1 := tb_1 126 rfl
theorem m185 : Cond.code yX0_mayPay cX0_mayPay 4 (some .boolean) ∈ gt := gt_t (tb_3 112 rfl) rfl
theorem m186 : Cond.fieldLinkNest RX0 95 "DebtRooms$House" "debts" "I" "DebtRooms" ∈ tables_1 := tb_1 100 rfl
theorem m187 : Cond.methodLink RX0 98 yX0_mayPay ∈ gt := gt_t (tb_3 109 rfl) rfl
theorem m188 : Cond.instanceMethod yX0_mayPay ∈ gt := gt_t (tb_3 111 rfl) rfl
theorem m189 : Cond.selects RX0 yX0_mayPay yX0_mayPay ∈ gt := gt_s (pr_s (q := (yX0_mayPay, 10)) (List.mem_of_getElem? (i := 24) rfl)) rfl
theorem m190 : Cond.code yX0_payableBits cX0_payableBits 4 (some .int) ∈ gt := gt_t (tb_3 108 rfl) rfl
theorem m191 : Cond.code yX0_standing cX0_standing 4 (some .int) ∈ gt := gt_t (tb_3 146 rfl) rfl
theorem m192 : Cond.code yX0_tooPoorBits cX0_tooPoorBits 2 (some .int) ∈ gt := gt_t (tb_3 154 rfl) rfl
theorem m193 : Cond.fieldLink RX0 38 "DebtRooms$Affairs" "seen" "I" ∈ gt := gt_t (tb_1 186 rfl) rfl
theorem m194 : Cond.fieldLink RX0 28 "DebtRooms$Affairs" "seenDebt" "[I" ∈ gt := gt_t (tb_1 182 rfl) rfl
theorem m195 : Cond.fieldLink RX0 31 "DebtRooms$Affairs" "seenCould" "[Z" ∈ gt := gt_t (tb_1 184 rfl) rfl
theorem m196 : Cond.methodLink RX0 124 yX0_tooPoorBits ∈ gt := gt_t (tb_3 151 rfl) rfl
theorem m197 : Cond.instanceMethod yX0_tooPoorBits ∈ gt := gt_t (tb_3 153 rfl) rfl
theorem m198 : Cond.selects RX0 yX0_tooPoorBits yX0_tooPoorBits ∈ gt := gt_s (pr_s (q := (yX0_tooPoorBits, 10)) (List.mem_of_getElem? (i := 28) rfl)) rfl
theorem m199 : Cond.code yX0_purseBits cX0_purseBits 5 (some .int) ∈ gt := gt_t (tb_3 150 rfl) rfl
theorem m200 : Cond.constant RJ6 265 (1431655765) ∈ gt := gt_t (tb_3 163 rfl) rfl
theorem m201 : Cond.constant RJ6 266 (858993459) ∈ gt := gt_t (tb_3 164 rfl) rfl
theorem m202 : Cond.constant RJ6 267 (252645135) ∈ gt := gt_t (tb_3 165 rfl) rfl
theorem m203 : Cond.code yJ6_bitCount_0f7a4 cJ6_bitCount_0f7a4 1 (some .int) ∈ gt := gt_t (tb_3 162 rfl) rfl
theorem m204 : Cond.initialized RJ6 ∈ gt := gt_t (tb_1 20 rfl) rfl
theorem m205 : Cond.methodLink RX0 127 yX0_purseBits ∈ gt := gt_t (tb_3 159 rfl) rfl
theorem m206 : Cond.instanceMethod yX0_purseBits ∈ gt := gt_t (tb_3 149 rfl) rfl
theorem m207 : Cond.selects RX0 yX0_purseBits yX0_purseBits ∈ gt := gt_s (pr_s (q := (yX0_purseBits, 10)) (List.mem_of_getElem? (i := 27) rfl)) rfl
theorem m208 : Cond.methodLink RX0 130 yJ6_bitCount_0f7a4 ∈ gt := gt_t (tb_3 160 rfl) rfl
theorem m209 : Cond.static yJ6_bitCount_0f7a4 ∈ gt := gt_t (tb_3 161 rfl) rfl
theorem ma210 : Cond.methodLink RX0 135 Lib.Math.max.name ∈ gt := gt_t (tb_3 166 (by decide +kernel)) rfl
theorem m211 : Cond.code yX0_debtToPress cX0_debtToPress 8 (some .int) ∈ gt := gt_t (tb_3 158 rfl) rfl
theorem m212 : Cond.methodLink RX11 93 yX11_isNobody ∈ gt := gt_t (tb_3 51 rfl) rfl
theorem m213 : Cond.instanceMethod yX11_isNobody ∈ gt := gt_t (tb_3 53 rfl) rfl
theorem m214 : Cond.selects RX11 yX11_isNobody yX11_isNobody ∈ gt := gt_s (pr_s (q := (yX11_isNobody, 10)) (List.mem_of_getElem? (i := 17) rfl)) rfl
theorem m215 : Cond.fieldLinkNest RX11 96 "DebtRooms$House" "kinds" "[LDebtRooms$Person;" "DebtRooms" ∈ tables_1 := tb_1 117 rfl
theorem m216 : Cond.fieldLink RX11 28 "DebtRooms" "now" "LDebtRooms$Affairs;" ∈ gt := gt_t (tb_2 51 rfl) rfl
theorem m217 : Cond.fieldLinkNest RX11 106 "DebtRooms$Affairs" "purse" "[I" "DebtRooms" ∈ tables_1 := tb_1 165 rfl
theorem m218 : Cond.fieldLinkNest RX11 110 "DebtRooms$Affairs" "room" "[I" "DebtRooms" ∈ tables_1 := tb_1 169 rfl
theorem m219 : Cond.methodLinkNest RX11 113 yX0_keyBits "DebtRooms" ∈ tables_1 := tb_3 72 rfl
theorem m220 : Cond.instanceMethod yX0_keyBits ∈ gt := gt_t (tb_3 74 rfl) rfl
theorem m221 : Cond.selects RX0 yX0_keyBits yX0_keyBits ∈ gt := gt_s (pr_s (q := (yX0_keyBits, 10)) (List.mem_of_getElem? (i := 18) rfl)) rfl
theorem m222 : Cond.methodLinkNest RX11 117 yX0_doorBits "DebtRooms" ∈ tables_1 := tb_3 76 rfl
theorem m223 : Cond.instanceMethod yX0_doorBits ∈ gt := gt_t (tb_3 78 rfl) rfl
theorem m224 : Cond.selects RX0 yX0_doorBits yX0_doorBits ∈ gt := gt_s (pr_s (q := (yX0_doorBits, 10)) (List.mem_of_getElem? (i := 19) rfl)) rfl
theorem m225 : Cond.methodLinkNest RX11 120 yX0_payableBits "DebtRooms" ∈ tables_1 := tb_3 105 rfl
theorem m226 : Cond.instanceMethod yX0_payableBits ∈ gt := gt_t (tb_3 107 rfl) rfl
theorem m227 : Cond.selects RX0 yX0_payableBits yX0_payableBits ∈ gt := gt_s (pr_s (q := (yX0_payableBits, 10)) (List.mem_of_getElem? (i := 23) rfl)) rfl
theorem m228 : Cond.methodLinkNest RX11 123 yX0_standing "DebtRooms" ∈ tables_1 := tb_3 143 rfl
theorem m229 : Cond.instanceMethod yX0_standing ∈ gt := gt_t (tb_3 145 rfl) rfl
theorem m230 : Cond.selects RX0 yX0_standing yX0_standing ∈ gt := gt_s (pr_s (q := (yX0_standing, 10)) (List.mem_of_getElem? (i := 26) rfl)) rfl
theorem m231 : Cond.methodLinkNest RX11 126 yX0_purseBits "DebtRooms" ∈ tables_1 := tb_3 147 rfl
theorem m232 : Cond.methodLinkNest RX11 129 yX0_debtToPress "DebtRooms" ∈ tables_1 := tb_3 155 rfl
theorem m233 : Cond.instanceMethod yX0_debtToPress ∈ gt := gt_t (tb_3 157 rfl) rfl
theorem m234 : Cond.selects RX0 yX0_debtToPress yX0_debtToPress ∈ gt := gt_s (pr_s (q := (yX0_debtToPress, 10)) (List.mem_of_getElem? (i := 29) rfl)) rfl
theorem m235 : Cond.code yX11_person cX11_person 3 (some .int) ∈ gt := gt_t (tb_3 50 rfl) rfl
theorem m236 : Cond.fieldLink RX4 23 "DebtRooms$House" "kinds" "[LDebtRooms$Person;" ∈ gt := gt_t (tb_1 115 rfl) rfl
theorem m237 : Cond.code yX4_isOfKind cX4_isOfKind 4 (some .boolean) ∈ gt := gt_t (tb_3 174 rfl) rfl
theorem m238 : Cond.methodLinkNest RX11 132 yX4_isOfKind "DebtRooms" ∈ tables_1 := tb_3 171 rfl
theorem m239 : Cond.instanceMethod yX4_isOfKind ∈ gt := gt_t (tb_3 173 rfl) rfl
theorem m240 : Cond.selects RX4 yX4_isOfKind yX4_isOfKind ∈ gt := gt_s (pr_s (q := (yX4_isOfKind, 11)) (List.mem_of_getElem? (i := 30) rfl)) rfl
theorem m241 : Cond.code yX11_as cX11_as 3 (some .int) ∈ gt := gt_t (tb_3 170 rfl) rfl
theorem m242 : Cond.fieldLinkNest RX11 241 "DebtRooms$House" "doors" "I" "DebtRooms" ∈ tables_1 := tb_1 95 rfl
theorem m243 : Cond.code yX11_isNoDoor cX11_isNoDoor 2 (some .boolean) ∈ gt := gt_t (tb_3 182 rfl) rfl
theorem m244 : Cond.methodLink RX11 136 yX11_isNoDoor ∈ gt := gt_t (tb_3 179 rfl) rfl
theorem m245 : Cond.instanceMethod yX11_isNoDoor ∈ gt := gt_t (tb_3 181 rfl) rfl
theorem m246 : Cond.selects RX11 yX11_isNoDoor yX11_isNoDoor ∈ gt := gt_s (pr_s (q := (yX11_isNoDoor, 10)) (List.mem_of_getElem? (i := 31) rfl)) rfl
theorem m247 : Cond.fieldLinkNest RX11 139 "DebtRooms$House" "oneEnd" "[I" "DebtRooms" ∈ tables_1 := tb_1 105 rfl
theorem m248 : Cond.fieldLinkNest RX11 142 "DebtRooms$House" "otherEnd" "[I" "DebtRooms" ∈ tables_1 := tb_1 109 rfl
theorem m249 : Cond.fieldLinkNest RX11 145 "DebtRooms$House" "lock" "[I" "DebtRooms" ∈ tables_1 := tb_1 113 rfl
theorem m250 : Cond.code yX11_door cX11_door 3 (some .int) ∈ gt := gt_t (tb_3 178 rfl) rfl
theorem m251 : Cond.fieldLinkNest RX11 258 "DebtRooms$House" "debts" "I" "DebtRooms" ∈ tables_1 := tb_1 102 rfl
theorem m252 : Cond.code yX11_isNoDebt cX11_isNoDebt 2 (some .boolean) ∈ gt := gt_t (tb_3 190 rfl) rfl
theorem m253 : Cond.methodLink RX11 148 yX11_isNoDebt ∈ gt := gt_t (tb_3 187 rfl) rfl
theorem m254 : Cond.instanceMethod yX11_isNoDebt ∈ gt := gt_t (tb_3 189 rfl) rfl
theorem m255 : Cond.selects RX11 yX11_isNoDebt yX11_isNoDebt ∈ gt := gt_s (pr_s (q := (yX11_isNoDebt, 10)) (List.mem_of_getElem? (i := 32) rfl)) rfl
theorem m256 : Cond.fieldLinkNest RX11 151 "DebtRooms$House" "debtor" "[I" "DebtRooms" ∈ tables_1 := tb_1 122 rfl
theorem m257 : Cond.fieldLinkNest RX11 154 "DebtRooms$House" "creditor" "[I" "DebtRooms" ∈ tables_1 := tb_1 127 rfl
theorem m258 : Cond.fieldLinkNest RX11 157 "DebtRooms$House" "debtRoom" "[I" "DebtRooms" ∈ tables_1 := tb_1 132 rfl
theorem m259 : Cond.fieldLinkNest RX11 160 "DebtRooms$Affairs" "sum" "[I" "DebtRooms" ∈ tables_1 := tb_1 176 rfl
theorem m260 : Cond.methodLinkNest RX11 163 yX0_costOf "DebtRooms" ∈ tables_1 := tb_3 191 rfl
theorem m261 : Cond.fieldLinkNest RX11 166 "DebtRooms$Affairs" "paid" "[Z" "DebtRooms" ∈ tables_1 := tb_1 180 rfl
theorem m262 : Cond.code yX11_debt cX11_debt 3 (some .int) ∈ gt := gt_t (tb_3 186 rfl) rfl
theorem m263 : Cond.code yX4_roomBeyond cX4_roomBeyond 3 (some .int) ∈ gt := gt_t (tb_3 204 rfl) rfl
theorem m264 : Cond.methodLinkNest RX0 67 yX4_roomBeyond "DebtRooms" ∈ tables_1 := tb_3 201 rfl
theorem m265 : Cond.instanceMethod yX4_roomBeyond ∈ gt := gt_t (tb_3 203 rfl) rfl
theorem m266 : Cond.selects RX4 yX4_roomBeyond yX4_roomBeyond ∈ gt := gt_s (pr_s (q := (yX4_roomBeyond, 11)) (List.mem_of_getElem? (i := 34) rfl)) rfl
theorem m267 : Cond.fieldLink RX0 42 "DebtRooms$Affairs" "gone" "I" ∈ gt := gt_t (tb_1 189 rfl) rfl
theorem m268 : Cond.code yX0_goThrough cX0_goThrough 3 none ∈ gt := gt_t (tb_3 200 rfl) rfl
theorem m269 : Cond.methodLinkNest RX11 170 yX0_mayGo "DebtRooms" ∈ tables_1 := tb_3 196 rfl
theorem m270 : Cond.fieldLinkNest RX11 173 "DebtRooms$Affairs" "gone" "I" "DebtRooms" ∈ tables_1 := tb_1 190 rfl
theorem m271 : Cond.methodLinkNest RX11 176 yX0_goThrough "DebtRooms" ∈ tables_1 := tb_3 197 rfl
theorem m272 : Cond.instanceMethod yX0_goThrough ∈ gt := gt_t (tb_3 199 rfl) rfl
theorem m273 : Cond.selects RX0 yX0_goThrough yX0_goThrough ∈ gt := gt_s (pr_s (q := (yX0_goThrough, 10)) (List.mem_of_getElem? (i := 33) rfl)) rfl
theorem m274 : Cond.code yX11_go cX11_go 3 (some .int) ∈ gt := gt_t (tb_3 195 rfl) rfl
theorem m275 : Cond.fieldLinkNest RX11 180 "DebtRooms$Affairs" "holder" "[I" "DebtRooms" ∈ tables_1 := tb_1 172 rfl
theorem m276 : Cond.code yX11_give cX11_give 4 (some .int) ∈ gt := gt_t (tb_3 208 rfl) rfl
theorem ma277 : Cond.methodLink RX0 90 Lib.Math.min.name ∈ gt := gt_t (tb_3 218 (by decide +kernel)) rfl
theorem m278 : Cond.code yX0_settle cX0_settle 3 none ∈ gt := gt_t (tb_3 217 rfl) rfl
theorem m279 : Cond.methodLinkNest RX11 183 yX0_mayPay "DebtRooms" ∈ tables_1 := tb_3 213 rfl
theorem m280 : Cond.methodLinkNest RX11 186 yX0_settle "DebtRooms" ∈ tables_1 := tb_3 214 rfl
theorem m281 : Cond.instanceMethod yX0_settle ∈ gt := gt_t (tb_3 216 rfl) rfl
theorem m282 : Cond.selects RX0 yX0_settle yX0_settle ∈ gt := gt_s (pr_s (q := (yX0_settle, 10)) (List.mem_of_getElem? (i := 35) rfl)) rfl
theorem m283 : Cond.code yX11_pay cX11_pay 2 (some .int) ∈ gt := gt_t (tb_3 212 rfl) rfl
theorem m284 : Cond.code yX11_earn cX11_earn 3 (some .int) ∈ gt := gt_t (tb_3 222 rfl) rfl
theorem m285 : Cond.code yX11_owe cX11_owe 4 (some .int) ∈ gt := gt_t (tb_3 226 rfl) rfl
theorem m286 : Cond.fieldLinkNest RX11 255 "DebtRooms$House" "rooms" "I" "DebtRooms" ∈ tables_1 := tb_1 90 rfl
theorem m287 : Cond.code yX11_isNoRoom cX11_isNoRoom 2 (some .boolean) ∈ gt := gt_t (tb_3 234 rfl) rfl
theorem m288 : Cond.fieldLink RX10 9 "DebtRooms$Walks" "far" "[I" ∈ gt := gt_t (tb_1 221 rfl) rfl
theorem m289 : Cond.code yX10_shorten cX10_shorten 3 none ∈ gt := gt_t (tb_4 7 rfl) rfl
theorem m290 : Cond.initialized RX10 ∈ gt := gt_t (tb_1 6 rfl) rfl
theorem m291 : Cond.fieldLink RX10 21 "DebtRooms$Walks" "plan" "LDebtRooms$House;" ∈ gt := gt_t (tb_1 220 rfl) rfl
theorem m292 : Cond.fieldLinkNest RX10 44 "DebtRooms$House" "rooms" "I" "DebtRooms" ∈ tables_1 := tb_1 88 rfl
theorem m293 : Cond.fieldLinkNest RX10 48 "DebtRooms$House" "doors" "I" "DebtRooms" ∈ tables_1 := tb_1 91 rfl
theorem m294 : Cond.methodLinkNest RX10 51 yX0_mayPass "DebtRooms" ∈ tables_1 := tb_4 3 rfl
theorem m295 : Cond.fieldLinkNest RX10 55 "DebtRooms$House" "oneEnd" "[I" "DebtRooms" ∈ tables_1 := tb_1 104 rfl
theorem m296 : Cond.fieldLinkNest RX10 58 "DebtRooms$House" "otherEnd" "[I" "DebtRooms" ∈ tables_1 := tb_1 108 rfl
theorem m297 : Cond.methodLink RX10 61 yX10_shorten ∈ gt := gt_t (tb_4 4 rfl) rfl
theorem m298 : Cond.instanceMethod yX10_shorten ∈ gt := gt_t (tb_4 6 rfl) rfl
theorem m299 : Cond.selects RX10 yX10_shorten yX10_shorten ∈ gt := gt_s (pr_s (q := (yX10_shorten, 4)) (List.mem_of_getElem? (i := 39) rfl)) rfl
theorem m300 : Cond.code yX10_measure cX10_measure 6 none ∈ gt := gt_t (tb_4 2 rfl) rfl
theorem m301 : Cond.methodLink RX10 25 yX10_measure ∈ gt := gt_t (tb_3 239 rfl) rfl
theorem m302 : Cond.instanceMethod yX10_measure ∈ gt := gt_t (tb_4 1 rfl) rfl
theorem m303 : Cond.selects RX10 yX10_measure yX10_measure ∈ gt := gt_s (pr_s (q := (yX10_measure, 4)) (List.mem_of_getElem? (i := 38) rfl)) rfl
theorem m304 : Cond.fieldLinkNest RX10 29 "DebtRooms$Affairs" "room" "[I" "DebtRooms" ∈ tables_1 := tb_1 168 rfl
theorem m305 : Cond.code yX10_wayLength cX10_wayLength 4 (some .int) ∈ gt := gt_t (tb_3 238 rfl) rfl
theorem m306 : Cond.methodLinkNest RX10 65 yX4_doorEndsAt "DebtRooms" ∈ tables_1 := tb_4 16 rfl
theorem m307 : Cond.methodLinkNest RX10 38 yX4_roomBeyond "DebtRooms" ∈ tables_1 := tb_4 17 rfl
theorem m308 : Cond.code yX10_doorNearer cX10_doorNearer 5 (some .int) ∈ gt := gt_t (tb_4 15 rfl) rfl
theorem m309 : Cond.methodLink RX10 34 yX10_doorNearer ∈ gt := gt_t (tb_4 12 rfl) rfl
theorem m310 : Cond.instanceMethod yX10_doorNearer ∈ gt := gt_t (tb_4 14 rfl) rfl
theorem m311 : Cond.selects RX10 yX10_doorNearer yX10_doorNearer ∈ gt := gt_s (pr_s (q := (yX10_doorNearer, 4)) (List.mem_of_getElem? (i := 41) rfl)) rfl
theorem m312 : Cond.code yX10_wayDoor cX10_wayDoor 8 (some .int) ∈ gt := gt_t (tb_4 11 rfl) rfl
theorem m313 : Cond.methodLink RX11 190 yX11_isNoRoom ∈ gt := gt_t (tb_3 231 rfl) rfl
theorem m314 : Cond.instanceMethod yX11_isNoRoom ∈ gt := gt_t (tb_3 233 rfl) rfl
theorem m315 : Cond.selects RX11 yX11_isNoRoom yX11_isNoRoom ∈ gt := gt_s (pr_s (q := (yX11_isNoRoom, 10)) (List.mem_of_getElem? (i := 36) rfl)) rfl
theorem m316 : Cond.fieldLink RX11 41 "DebtRooms" "walks" "LDebtRooms$Walks;" ∈ gt := gt_t (tb_2 54 rfl) rfl
theorem m317 : Cond.methodLinkNest RX11 197 yX10_wayDoor "DebtRooms" ∈ tables_1 := tb_4 8 rfl
theorem m318 : Cond.instanceMethod yX10_wayDoor ∈ gt := gt_t (tb_4 10 rfl) rfl
theorem m319 : Cond.selects RX10 yX10_wayDoor yX10_wayDoor ∈ gt := gt_s (pr_s (q := (yX10_wayDoor, 4)) (List.mem_of_getElem? (i := 40) rfl)) rfl
theorem m320 : Cond.methodLinkNest RX11 193 yX10_wayLength "DebtRooms" ∈ tables_1 := tb_3 235 rfl
theorem m321 : Cond.instanceMethod yX10_wayLength ∈ gt := gt_t (tb_3 237 rfl) rfl
theorem m322 : Cond.selects RX10 yX10_wayLength yX10_wayLength ∈ gt := gt_s (pr_s (q := (yX10_wayLength, 4)) (List.mem_of_getElem? (i := 37) rfl)) rfl
theorem m323 : Cond.code yX11_way cX11_way 4 (some .int) ∈ gt := gt_t (tb_3 230 rfl) rfl
theorem m324 : Cond.code yX0_takeOver cX0_takeOver 3 none ∈ gt := gt_t (tb_4 29 rfl) rfl
theorem m325 : Cond.methodLink RX0 102 yX0_settle ∈ gt := gt_t (tb_4 37 rfl) rfl
theorem m326 : Cond.code yX0_payAll cX0_payAll 6 (some .int) ∈ gt := gt_t (tb_4 36 rfl) rfl
theorem m327 : Cond.fieldLink RX5 31 "DebtRooms$Nights" "most" "I" ∈ gt := gt_t (tb_2 6 rfl) rfl
theorem m328 : Cond.fieldLink RX5 21 "DebtRooms$Nights" "best" "[I" ∈ gt := gt_t (tb_2 5 rfl) rfl
theorem m329 : Cond.fieldLink RX5 17 "DebtRooms$Nights" "path" "[I" ∈ gt := gt_t (tb_2 4 rfl) rfl
theorem m330 : Cond.code yX5_keepIfMore cX5_keepIfMore 3 none ∈ gt := gt_t (tb_4 41 rfl) rfl
theorem m331 : Cond.initialized RX5 ∈ gt := gt_t (tb_1 7 rfl) rfl
theorem m332 : Cond.fieldLink RX5 11 "DebtRooms$Nights" "levels" "[LDebtRooms$Affairs;" ∈ gt := gt_t (tb_2 3 rfl) rfl
theorem m333 : Cond.methodLinkNest RX5 43 yX0_payAll "DebtRooms" ∈ tables_1 := tb_4 33 rfl
theorem m334 : Cond.instanceMethod yX0_payAll ∈ gt := gt_t (tb_4 35 rfl) rfl
theorem m335 : Cond.selects RX0 yX0_payAll yX0_payAll ∈ gt := gt_s (pr_s (q := (yX0_payAll, 10)) (List.mem_of_getElem? (i := 44) rfl)) rfl
theorem m336 : Cond.methodLink RX5 47 yX5_keepIfMore ∈ gt := gt_t (tb_4 38 rfl) rfl
theorem m337 : Cond.instanceMethod yX5_keepIfMore ∈ gt := gt_t (tb_4 40 rfl) rfl
theorem m338 : Cond.selects RX5 yX5_keepIfMore yX5_keepIfMore ∈ gt := gt_s (pr_s (q := (yX5_keepIfMore, 5)) (List.mem_of_getElem? (i := 45) rfl)) rfl
theorem m339 : Cond.fieldLink RX5 24 "DebtRooms$Nights" "plan" "LDebtRooms$House;" ∈ gt := gt_t (tb_2 2 rfl) rfl
theorem m340 : Cond.fieldLinkNest RX5 51 "DebtRooms$House" "doors" "I" "DebtRooms" ∈ tables_1 := tb_1 92 rfl
theorem m341 : Cond.methodLinkNest RX5 56 yX0_mayGo "DebtRooms" ∈ tables_1 := tb_4 42 rfl
theorem m342 : Cond.methodLinkNest RX5 35 yX0_takeOver "DebtRooms" ∈ tables_1 := tb_4 26 rfl
theorem m343 : Cond.instanceMethod yX0_takeOver ∈ gt := gt_t (tb_4 28 rfl) rfl
theorem m344 : Cond.selects RX0 yX0_takeOver yX0_takeOver ∈ gt := gt_s (pr_s (q := (yX0_takeOver, 10)) (List.mem_of_getElem? (i := 43) rfl)) rfl
theorem m345 : Cond.methodLinkNest RX5 60 yX0_goThrough "DebtRooms" ∈ tables_1 := tb_4 43 rfl
theorem m346 : Cond.methodLink RX5 39 yX5_goOn ∈ gt := gt_t (tb_4 30 rfl) rfl
theorem m347 : Cond.static yX5_goOn ∈ gt := gt_t (tb_4 31 rfl) rfl
theorem m348 : Cond.code yX5_goOn cX5_goOn 9 none ∈ gt := gt_t (tb_4 32 rfl) rfl
theorem m349 : Cond.code yX5_search cX5_search 4 none ∈ gt := gt_t (tb_4 25 rfl) rfl
theorem m350 : Cond.code yX5_doorAt cX5_doorAt 3 (some .int) ∈ gt := gt_t (tb_4 47 rfl) rfl
theorem m351 : Cond.fieldLink RX11 48 "DebtRooms" "nights" "LDebtRooms$Nights;" ∈ gt := gt_t (tb_2 55 rfl) rfl
theorem m352 : Cond.methodLinkNest RX11 201 yX5_search "DebtRooms" ∈ tables_1 := tb_4 22 rfl
theorem m353 : Cond.instanceMethod yX5_search ∈ gt := gt_t (tb_4 24 rfl) rfl
theorem m354 : Cond.selects RX5 yX5_search yX5_search ∈ gt := gt_s (pr_s (q := (yX5_search, 5)) (List.mem_of_getElem? (i := 42) rfl)) rfl
theorem m355 : Cond.methodLinkNest RX11 208 yX5_doorAt "DebtRooms" ∈ tables_1 := tb_4 44 rfl
theorem m356 : Cond.instanceMethod yX5_doorAt ∈ gt := gt_t (tb_4 46 rfl) rfl
theorem m357 : Cond.selects RX5 yX5_doorAt yX5_doorAt ∈ gt := gt_s (pr_s (q := (yX5_doorAt, 5)) (List.mem_of_getElem? (i := 46) rfl)) rfl
theorem m358 : Cond.fieldLinkNest RX11 205 "DebtRooms$Nights" "most" "I" "DebtRooms" ∈ tables_1 := tb_2 7 rfl
theorem m359 : Cond.code yX11_night cX11_night 4 (some .int) ∈ gt := gt_t (tb_4 21 rfl) rfl
theorem m360 : Cond.fieldLink RX9 55 "DebtRooms$Rings" "most" "I" ∈ gt := gt_t (tb_2 32 rfl) rfl
theorem m361 : Cond.fieldLink RX9 18 "DebtRooms$Rings" "best" "[I" ∈ gt := gt_t (tb_2 28 rfl) rfl
theorem m362 : Cond.fieldLink RX9 15 "DebtRooms$Rings" "less" "[I" ∈ gt := gt_t (tb_2 27 rfl) rfl
theorem m363 : Cond.code yX9_keepIfMore cX9_keepIfMore 3 none ∈ gt := gt_t (tb_4 62 rfl) rfl
theorem m364 : Cond.initialized RX9 ∈ gt := gt_t (tb_1 8 rfl) rfl
theorem m365 : Cond.fieldLink RX9 9 "DebtRooms$Rings" "limit" "[I" ∈ gt := gt_t (tb_2 26 rfl) rfl
theorem m366 : Cond.fieldLink RX9 27 "DebtRooms$Rings" "plan" "LDebtRooms$House;" ∈ gt := gt_t (tb_2 25 rfl) rfl
theorem m367 : Cond.fieldLinkNest RX9 49 "DebtRooms$House" "debtor" "[I" "DebtRooms" ∈ tables_1 := tb_1 120 rfl
theorem m368 : Cond.fieldLinkNest RX9 52 "DebtRooms$House" "creditor" "[I" "DebtRooms" ∈ tables_1 := tb_1 125 rfl
theorem m369 : Cond.fieldLink RX9 21 "DebtRooms$Rings" "lastDebt" "[I" ∈ gt := gt_t (tb_2 30 rfl) rfl
theorem m370 : Cond.fieldLink RX9 24 "DebtRooms$Rings" "uneven" "[I" ∈ gt := gt_t (tb_2 31 rfl) rfl
theorem ma371 : Cond.methodLink RX9 66 Lib.Math.max.name ∈ gt := gt_t (tb_4 63 (by decide +kernel)) rfl
theorem ma372 : Cond.methodLink RX9 72 Lib.Math.min.name ∈ gt := gt_t (tb_4 64 (by decide +kernel)) rfl
theorem m373 : Cond.methodLink RX9 58 yX9_lessen ∈ gt := gt_t (tb_4 56 rfl) rfl
theorem m374 : Cond.static yX9_lessen ∈ gt := gt_t (tb_4 57 rfl) rfl
theorem m375 : Cond.methodLink RX9 62 yX9_keepIfMore ∈ gt := gt_t (tb_4 59 rfl) rfl
theorem m376 : Cond.instanceMethod yX9_keepIfMore ∈ gt := gt_t (tb_4 61 rfl) rfl
theorem m377 : Cond.selects RX9 yX9_keepIfMore yX9_keepIfMore ∈ gt := gt_s (pr_s (q := (yX9_keepIfMore, 7)) (List.mem_of_getElem? (i := 48) rfl)) rfl
theorem m378 : Cond.code yX9_lessen cX9_lessen 8 none ∈ gt := gt_t (tb_4 58 rfl) rfl
theorem m379 : Cond.fieldLinkNest RX9 31 "DebtRooms$House" "debts" "I" "DebtRooms" ∈ tables_1 := tb_1 99 rfl
theorem m380 : Cond.fieldLinkNest RX9 37 "DebtRooms$House" "debtRoom" "[I" "DebtRooms" ∈ tables_1 := tb_1 130 rfl
theorem m381 : Cond.fieldLinkNest RX9 40 "DebtRooms$Affairs" "paid" "[Z" "DebtRooms" ∈ tables_1 := tb_1 179 rfl
theorem m382 : Cond.fieldLinkNest RX9 46 "DebtRooms$Affairs" "sum" "[I" "DebtRooms" ∈ tables_1 := tb_1 175 rfl
theorem m383 : Cond.code yX9_search cX9_search 4 none ∈ gt := gt_t (tb_4 55 rfl) rfl
theorem m384 : Cond.fieldLink RX11 55 "DebtRooms" "rings" "LDebtRooms$Rings;" ∈ gt := gt_t (tb_2 56 rfl) rfl
theorem m385 : Cond.methodLinkNest RX11 212 yX9_search "DebtRooms" ∈ tables_1 := tb_4 52 rfl
theorem m386 : Cond.instanceMethod yX9_search ∈ gt := gt_t (tb_4 54 rfl) rfl
theorem m387 : Cond.selects RX9 yX9_search yX9_search ∈ gt := gt_s (pr_s (q := (yX9_search, 7)) (List.mem_of_getElem? (i := 47) rfl)) rfl
theorem m388 : Cond.fieldLinkNest RX11 216 "DebtRooms$Rings" "best" "[I" "DebtRooms" ∈ tables_1 := tb_2 29 rfl
theorem m389 : Cond.fieldLinkNest RX11 215 "DebtRooms$Rings" "most" "I" "DebtRooms" ∈ tables_1 := tb_2 33 rfl
theorem m390 : Cond.code yX11_cancel cX11_cancel 3 (some .int) ∈ gt := gt_t (tb_4 51 rfl) rfl
theorem m391 : Cond.code yX0_owesStill cX0_owesStill 3 (some .boolean) ∈ gt := gt_t (tb_4 81 rfl) rfl
theorem m392 : Cond.methodLink RX0 106 yX0_owesStill ∈ gt := gt_t (tb_4 78 rfl) rfl
theorem m393 : Cond.instanceMethod yX0_owesStill ∈ gt := gt_t (tb_4 80 rfl) rfl
theorem m394 : Cond.selects RX0 yX0_owesStill yX0_owesStill ∈ gt := gt_s (pr_s (q := (yX0_owesStill, 10)) (List.mem_of_getElem? (i := 51) rfl)) rfl
theorem m395 : Cond.code yX0_costOfAll cX0_costOfAll 4 (some .int) ∈ gt := gt_t (tb_4 77 rfl) rfl
theorem m396 : Cond.code yX0_settleAll cX0_settleAll 3 none ∈ gt := gt_t (tb_4 85 rfl) rfl
theorem m397 : Cond.fieldLinkNest RX0 109 "DebtRooms$House" "people" "I" "DebtRooms" ∈ tables_1 := tb_1 97 rfl
theorem m398 : Cond.methodLink RX0 112 yX0_costOfAll ∈ gt := gt_t (tb_4 74 rfl) rfl
theorem m399 : Cond.instanceMethod yX0_costOfAll ∈ gt := gt_t (tb_4 76 rfl) rfl
theorem m400 : Cond.selects RX0 yX0_costOfAll yX0_costOfAll ∈ gt := gt_s (pr_s (q := (yX0_costOfAll, 10)) (List.mem_of_getElem? (i := 50) rfl)) rfl
theorem m401 : Cond.methodLink RX0 115 yX0_settleAll ∈ gt := gt_t (tb_4 82 rfl) rfl
theorem m402 : Cond.instanceMethod yX0_settleAll ∈ gt := gt_t (tb_4 84 rfl) rfl
theorem m403 : Cond.selects RX0 yX0_settleAll yX0_settleAll ∈ gt := gt_s (pr_s (q := (yX0_settleAll, 10)) (List.mem_of_getElem? (i := 52) rfl)) rfl
theorem m404 : Cond.code yX0_payWhoCan cX0_payWhoCan 3 (some .int) ∈ gt := gt_t (tb_4 73 rfl) rfl
theorem m405 : Cond.fieldLink RX11 35 "DebtRooms" "trial" "LDebtRooms$Affairs;" ∈ gt := gt_t (tb_2 53 rfl) rfl
theorem m406 : Cond.methodLinkNest RX11 219 yX0_takeOver "DebtRooms" ∈ tables_1 := tb_4 69 rfl
theorem m407 : Cond.methodLinkNest RX11 222 yX0_payWhoCan "DebtRooms" ∈ tables_1 := tb_4 70 rfl
theorem m408 : Cond.instanceMethod yX0_payWhoCan ∈ gt := gt_t (tb_4 72 rfl) rfl
theorem m409 : Cond.selects RX0 yX0_payWhoCan yX0_payWhoCan ∈ gt := gt_s (pr_s (q := (yX0_payWhoCan, 10)) (List.mem_of_getElem? (i := 49) rfl)) rfl
theorem m410 : Cond.code yX11_sound cX11_sound 1 (some .int) ∈ gt := gt_t (tb_4 68 rfl) rfl
theorem m411 : Cond.fieldLink RX10 18 "DebtRooms$Walks" "next" "[I" ∈ gt := gt_t (tb_1 223 rfl) rfl
theorem m412 : Cond.fieldLink RX10 15 "DebtRooms$Walks" "parts" "[I" ∈ gt := gt_t (tb_1 222 rfl) rfl
theorem m413 : Cond.code yX10_spreadFrom cX10_spreadFrom 6 none ∈ gt := gt_t (tb_4 102 rfl) rfl
theorem m414 : Cond.methodLink RX10 73 yX10_spreadFrom ∈ gt := gt_t (tb_4 99 rfl) rfl
theorem m415 : Cond.instanceMethod yX10_spreadFrom ∈ gt := gt_t (tb_4 101 rfl) rfl
theorem m416 : Cond.selects RX10 yX10_spreadFrom yX10_spreadFrom ∈ gt := gt_s (pr_s (q := (yX10_spreadFrom, 4)) (List.mem_of_getElem? (i := 55) rfl)) rfl
theorem m417 : Cond.code yX10_spread cX10_spread 4 none ∈ gt := gt_t (tb_4 98 rfl) rfl
theorem m418 : Cond.constant RX10 68 (216000) ∈ gt := gt_t (tb_4 94 rfl) rfl
theorem m419 : Cond.methodLink RX10 69 yX10_spread ∈ gt := gt_t (tb_4 95 rfl) rfl
theorem m420 : Cond.instanceMethod yX10_spread ∈ gt := gt_t (tb_4 97 rfl) rfl
theorem m421 : Cond.selects RX10 yX10_spread yX10_spread ∈ gt := gt_s (pr_s (q := (yX10_spread, 4)) (List.mem_of_getElem? (i := 54) rfl)) rfl
theorem m422 : Cond.code yX10_metParts cX10_metParts 8 (some .int) ∈ gt := gt_t (tb_4 93 rfl) rfl
theorem m423 : Cond.code yX11_commonDivisor cX11_commonDivisor 6 (some .int) ∈ gt := gt_t (tb_4 106 rfl) rfl
theorem m424 : Cond.methodLinkNest RX11 225 yX10_metParts "DebtRooms" ∈ tables_1 := tb_4 90 rfl
theorem m425 : Cond.instanceMethod yX10_metParts ∈ gt := gt_t (tb_4 92 rfl) rfl
theorem m426 : Cond.selects RX10 yX10_metParts yX10_metParts ∈ gt := gt_s (pr_s (q := (yX10_metParts, 4)) (List.mem_of_getElem? (i := 53) rfl)) rfl
theorem m427 : Cond.constant RX11 228 (216000) ∈ gt := gt_t (tb_4 103 rfl) rfl
theorem m428 : Cond.methodLink RX11 229 yX11_commonDivisor ∈ gt := gt_t (tb_4 104 rfl) rfl
theorem m429 : Cond.static yX11_commonDivisor ∈ gt := gt_t (tb_4 105 rfl) rfl
theorem m430 : Cond.code yX11_met cX11_met 7 (some .int) ∈ gt := gt_t (tb_4 89 rfl) rfl
theorem m431 : Cond.fieldLinkNest RX11 232 "DebtRooms$Affairs" "seen" "I" "DebtRooms" ∈ tables_1 := tb_1 188 rfl
theorem m432 : Cond.fieldLinkNest RX11 235 "DebtRooms$Affairs" "seenDebt" "[I" "DebtRooms" ∈ tables_1 := tb_1 183 rfl
theorem m433 : Cond.fieldLinkNest RX11 238 "DebtRooms$Affairs" "seenCould" "[Z" "DebtRooms" ∈ tables_1 := tb_1 185 rfl
theorem m434 : Cond.code yX11_see cX11_see 3 (some .int) ∈ gt := gt_t (tb_4 110 rfl) rfl
theorem m435 : Cond.code yX11_forget cX11_forget 2 (some .int) ∈ gt := gt_t (tb_4 114 rfl) rfl
theorem m436 : Cond.constantLong RX11 307 (1103515245) ∈ gt := gt_t (tb_4 122 rfl) rfl
theorem m437 : Cond.constantLong RX11 309 (12345) ∈ gt := gt_t (tb_4 123 rfl) rfl
theorem m438 : Cond.constantLong RX11 311 (2147483647) ∈ gt := gt_t (tb_4 124 rfl) rfl
theorem m439 : Cond.code yX11_nextSeed cX11_nextSeed 1 (some .int) ∈ gt := gt_t (tb_4 121 rfl) rfl
theorem m440 : Cond.code yX0_paidDebts cX0_paidDebts 3 (some .int) ∈ gt := gt_t (tb_4 130 rfl) rfl
theorem m441 : Cond.methodLinkNest RX11 252 yX0_paidDebts "DebtRooms" ∈ tables_1 := tb_4 127 rfl
theorem m442 : Cond.instanceMethod yX0_paidDebts ∈ gt := gt_t (tb_4 129 rfl) rfl
theorem m443 : Cond.selects RX0 yX0_paidDebts yX0_paidDebts ∈ gt := gt_s (pr_s (q := (yX0_paidDebts, 10)) (List.mem_of_getElem? (i := 56) rfl)) rfl
theorem m444 : Cond.methodLink RX11 244 yX11_nextSeed ∈ gt := gt_t (tb_4 119 rfl) rfl
theorem m445 : Cond.static yX11_nextSeed ∈ gt := gt_t (tb_4 120 rfl) rfl
theorem m446 : Cond.constant RX11 247 (65536) ∈ gt := gt_t (tb_4 125 rfl) rfl
theorem m447 : Cond.methodLinkNest RX11 248 yX0_payAll "DebtRooms" ∈ tables_1 := tb_4 126 rfl
theorem m448 : Cond.code yX11_winters cX11_winters 9 (some .int) ∈ gt := gt_t (tb_4 118 rfl) rfl
theorem m449 : Cond.fieldLink RX11 32 "DebtRooms" "kept" "LDebtRooms$Affairs;" ∈ gt := gt_t (tb_2 52 rfl) rfl
theorem m450 : Cond.fieldLink RX11 59 "DebtRooms" "isKept" "Z" ∈ gt := gt_t (tb_2 57 rfl) rfl
theorem m451 : Cond.code yX11_image cX11_image 1 (some .int) ∈ gt := gt_t (tb_4 134 rfl) rfl
theorem m452 : Cond.code yX11_restore cX11_restore 1 (some .int) ∈ gt := gt_t (tb_4 138 rfl) rfl
theorem m453 : Cond.code yX0_sumsNotPaid cX0_sumsNotPaid 3 (some .int) ∈ gt := gt_t (tb_4 146 rfl) rfl
theorem m454 : Cond.code yX0_allPurses cX0_allPurses 3 (some .int) ∈ gt := gt_t (tb_4 150 rfl) rfl
theorem m455 : Cond.methodLinkNest RX11 261 yX0_sumsNotPaid "DebtRooms" ∈ tables_1 := tb_4 143 rfl
theorem m456 : Cond.instanceMethod yX0_sumsNotPaid ∈ gt := gt_t (tb_4 145 rfl) rfl
theorem m457 : Cond.selects RX0 yX0_sumsNotPaid yX0_sumsNotPaid ∈ gt := gt_s (pr_s (q := (yX0_sumsNotPaid, 10)) (List.mem_of_getElem? (i := 57) rfl)) rfl
theorem m458 : Cond.methodLinkNest RX11 264 yX0_allPurses "DebtRooms" ∈ tables_1 := tb_4 147 rfl
theorem m459 : Cond.instanceMethod yX0_allPurses ∈ gt := gt_t (tb_4 149 rfl) rfl
theorem m460 : Cond.selects RX0 yX0_allPurses yX0_allPurses ∈ gt := gt_s (pr_s (q := (yX0_allPurses, 10)) (List.mem_of_getElem? (i := 58) rfl)) rfl
theorem m461 : Cond.fieldLink RX11 63 "DebtRooms" "readings" "I" ∈ gt := gt_t (tb_2 58 rfl) rfl
theorem m462 : Cond.code yX11_count cX11_count 2 (some .int) ∈ gt := gt_t (tb_4 142 rfl) rfl
theorem m463 : Cond.constantLong RX11 305 (31) ∈ gt := gt_t (tb_4 164 rfl) rfl
theorem m464 : Cond.code yX11_mix cX11_mix 3 (some .long) ∈ gt := gt_t (tb_4 163 rfl) rfl
theorem m465 : Cond.methodLink RX11 298 yX11_person ∈ gt := gt_t (tb_4 160 rfl) rfl
theorem m466 : Cond.instanceMethod yX11_person ∈ gt := gt_t (tb_3 48 rfl) rfl
theorem m467 : Cond.selects RX11 yX11_person yX11_person ∈ gt := gt_t (tb_3 49 rfl) rfl
theorem m468 : Cond.methodLink RX11 276 yX11_mix ∈ gt := gt_t (tb_4 161 rfl) rfl
theorem m469 : Cond.static yX11_mix ∈ gt := gt_t (tb_4 162 rfl) rfl
theorem m470 : Cond.methodLink RX11 301 yX11_way ∈ gt := gt_t (tb_4 165 rfl) rfl
theorem m471 : Cond.instanceMethod yX11_way ∈ gt := gt_t (tb_3 228 rfl) rfl
theorem m472 : Cond.selects RX11 yX11_way yX11_way ∈ gt := gt_t (tb_3 229 rfl) rfl
theorem m473 : Cond.code yX11_mixPerson cX11_mixPerson 7 (some .long) ∈ gt := gt_t (tb_4 159 rfl) rfl
theorem m474 : Cond.constantLong RX11 267 (1223) ∈ gt := gt_t (tb_4 155 rfl) rfl
theorem m475 : Cond.methodLink RX11 269 yX11_mixPerson ∈ gt := gt_t (tb_4 156 rfl) rfl
theorem m476 : Cond.instanceMethod yX11_mixPerson ∈ gt := gt_t (tb_4 158 rfl) rfl
theorem m477 : Cond.selects RX11 yX11_mixPerson yX11_mixPerson ∈ gt := gt_s (pr_s (q := (yX11_mixPerson, 10)) (List.mem_of_getElem? (i := 59) rfl)) rfl
theorem m478 : Cond.methodLink RX11 273 yX11_door ∈ gt := gt_t (tb_4 166 rfl) rfl
theorem m479 : Cond.instanceMethod yX11_door ∈ gt := gt_t (tb_3 176 rfl) rfl
theorem m480 : Cond.selects RX11 yX11_door yX11_door ∈ gt := gt_t (tb_3 177 rfl) rfl
theorem m481 : Cond.methodLink RX11 279 yX11_debt ∈ gt := gt_t (tb_4 167 rfl) rfl
theorem m482 : Cond.instanceMethod yX11_debt ∈ gt := gt_t (tb_3 184 rfl) rfl
theorem m483 : Cond.selects RX11 yX11_debt yX11_debt ∈ gt := gt_t (tb_3 185 rfl) rfl
theorem m484 : Cond.methodLink RX11 285 yX11_sound ∈ gt := gt_t (tb_4 169 rfl) rfl
theorem m485 : Cond.instanceMethod yX11_sound ∈ gt := gt_t (tb_4 66 rfl) rfl
theorem m486 : Cond.selects RX11 yX11_sound yX11_sound ∈ gt := gt_t (tb_4 67 rfl) rfl
theorem m487 : Cond.methodLink RX11 288 yX11_met ∈ gt := gt_t (tb_4 170 rfl) rfl
theorem m488 : Cond.instanceMethod yX11_met ∈ gt := gt_t (tb_4 87 rfl) rfl
theorem m489 : Cond.selects RX11 yX11_met yX11_met ∈ gt := gt_t (tb_4 88 rfl) rfl
theorem m490 : Cond.methodLink RX11 282 yX11_cancel ∈ gt := gt_t (tb_4 168 rfl) rfl
theorem m491 : Cond.instanceMethod yX11_cancel ∈ gt := gt_t (tb_4 49 rfl) rfl
theorem m492 : Cond.selects RX11 yX11_cancel yX11_cancel ∈ gt := gt_t (tb_4 50 rfl) rfl
theorem m493 : Cond.fieldLinkNest RX11 292 "DebtRooms$Page" "letters" "[I" "DebtRooms" ∈ tables_1 := tb_1 36 rfl
theorem m494 : Cond.methodLink RX11 295 yX11_count ∈ gt := gt_t (tb_4 171 rfl) rfl
theorem m495 : Cond.instanceMethod yX11_count ∈ gt := gt_t (tb_4 140 rfl) rfl
theorem m496 : Cond.selects RX11 yX11_count yX11_count ∈ gt := gt_t (tb_4 141 rfl) rfl
theorem m497 : Cond.code yX11_digest cX11_digest 5 (some .long) ∈ gt := gt_t (tb_4 154 rfl) rfl
theorem m498 : Cond.code yX12_in cX12_in 6 (some .boolean) ∈ gt := gt_t (tb_5 78 rfl) rfl
theorem m499 : Cond.initialized RX12 ∈ gt := gt_t (tb_1 9 rfl) rfl
theorem m500 : Cond.code yX12_copy cX12_copy 3 none ∈ gt := gt_t (tb_5 168 rfl) rfl
theorem m501 : Cond.constantLong RX12 101 (126) ∈ gt := gt_t (tb_5 75 rfl) rfl
theorem m502 : Cond.methodLink RX12 103 yX12_in ∈ gt := gt_t (tb_5 76 rfl) rfl
theorem m503 : Cond.static yX12_in ∈ gt := gt_t (tb_5 77 rfl) rfl
theorem m504 : Cond.fieldLink RX12 107 "DebtRoomsModel" "pageMany" "I" ∈ gt := gt_t (tb_4 179 rfl) rfl
theorem m505 : Cond.fieldLink RX12 7 "DebtRoomsModel" "page" "[I" ∈ gt := gt_t (tb_4 178 rfl) rfl
theorem m506 : Cond.code yX12_letter cX12_letter 2 (some .int) ∈ gt := gt_t (tb_5 74 rfl) rfl
theorem m507 : Cond.code yX12_blank cX12_blank 2 (some .int) ∈ gt := gt_t (tb_5 82 rfl) rfl
theorem m508 : Cond.code yX12_kindBy cX12_kindBy 1 (some .int) ∈ gt := gt_t (tb_5 112 rfl) rfl
theorem m509 : Cond.code yX12_lockBy cX12_lockBy 1 (some .int) ∈ gt := gt_t (tb_5 129 rfl) rfl
theorem m510 : Cond.constantLong RX12 110 (48) ∈ gt := gt_t (tb_5 105 rfl) rfl
theorem m511 : Cond.code yX12_isRoomLetter cX12_isRoomLetter 2 (some .boolean) ∈ gt := gt_t (tb_5 104 rfl) rfl
theorem m512 : Cond.methodLink RX12 112 yX12_isRoomLetter ∈ gt := gt_t (tb_5 101 rfl) rfl
theorem m513 : Cond.instanceMethod yX12_isRoomLetter ∈ gt := gt_t (tb_5 103 rfl) rfl
theorem m514 : Cond.selects RX12 yX12_isRoomLetter yX12_isRoomLetter ∈ gt := gt_s (pr_s (q := (yX12_isRoomLetter, 44)) (List.mem_of_getElem? (i := 63) rfl)) rfl
theorem m515 : Cond.fieldLink RX12 116 "DebtRoomsModel" "doorsEnd" "I" ∈ gt := gt_t (tb_4 180 rfl) rfl
theorem m516 : Cond.code yX12_isDoorLetter cX12_isDoorLetter 3 (some .boolean) ∈ gt := gt_t (tb_5 100 rfl) rfl
theorem m517 : Cond.methodLink RX12 119 yX12_kindBy ∈ gt := gt_t (tb_5 110 rfl) rfl
theorem m518 : Cond.static yX12_kindBy ∈ gt := gt_t (tb_5 111 rfl) rfl
theorem m519 : Cond.constantLong RX12 123 (57) ∈ gt := gt_t (tb_5 113 rfl) rfl
theorem m520 : Cond.fieldLink RX12 125 "DebtRoomsModel" "peopleEnd" "I" ∈ gt := gt_t (tb_4 181 rfl) rfl
theorem m521 : Cond.code yX12_isPersonLetter cX12_isPersonLetter 4 (some .boolean) ∈ gt := gt_t (tb_5 109 rfl) rfl
theorem m522 : Cond.code yX12_isPersonDigit cX12_isPersonDigit 2 (some .boolean) ∈ gt := gt_t (tb_5 121 rfl) rfl
theorem m523 : Cond.methodLink RX12 128 yX12_isPersonDigit ∈ gt := gt_t (tb_5 118 rfl) rfl
theorem m524 : Cond.instanceMethod yX12_isPersonDigit ∈ gt := gt_t (tb_5 120 rfl) rfl
theorem m525 : Cond.selects RX12 yX12_isPersonDigit yX12_isPersonDigit ∈ gt := gt_s (pr_s (q := (yX12_isPersonDigit, 44)) (List.mem_of_getElem? (i := 66) rfl)) rfl
theorem m526 : Cond.constantLong RX12 131 (49) ∈ gt := gt_t (tb_5 122 rfl) rfl
theorem m527 : Cond.code yX12_isDebtLetter cX12_isDebtLetter 4 (some .boolean) ∈ gt := gt_t (tb_5 117 rfl) rfl
theorem m528 : Cond.methodLink RX12 143 yX12_isDebtLetter ∈ gt := gt_t (tb_5 114 rfl) rfl
theorem m529 : Cond.instanceMethod yX12_isDebtLetter ∈ gt := gt_t (tb_5 116 rfl) rfl
theorem m530 : Cond.selects RX12 yX12_isDebtLetter yX12_isDebtLetter ∈ gt := gt_s (pr_s (q := (yX12_isDebtLetter, 44)) (List.mem_of_getElem? (i := 65) rfl)) rfl
theorem m531 : Cond.methodLink RX12 140 yX12_isPersonLetter ∈ gt := gt_t (tb_5 106 rfl) rfl
theorem m532 : Cond.instanceMethod yX12_isPersonLetter ∈ gt := gt_t (tb_5 108 rfl) rfl
theorem m533 : Cond.selects RX12 yX12_isPersonLetter yX12_isPersonLetter ∈ gt := gt_s (pr_s (q := (yX12_isPersonLetter, 44)) (List.mem_of_getElem? (i := 64) rfl)) rfl
theorem m534 : Cond.methodLink RX12 137 yX12_isDoorLetter ∈ gt := gt_t (tb_5 97 rfl) rfl
theorem m535 : Cond.instanceMethod yX12_isDoorLetter ∈ gt := gt_t (tb_5 99 rfl) rfl
theorem m536 : Cond.selects RX12 yX12_isDoorLetter yX12_isDoorLetter ∈ gt := gt_s (pr_s (q := (yX12_isDoorLetter, 44)) (List.mem_of_getElem? (i := 62) rfl)) rfl
theorem m537 : Cond.constantLong RX12 133 (50) ∈ gt := gt_t (tb_5 95 rfl) rfl
theorem m538 : Cond.constantLong RX12 135 (54) ∈ gt := gt_t (tb_5 96 rfl) rfl
theorem m539 : Cond.code yX12_isGood cX12_isGood 2 (some .boolean) ∈ gt := gt_t (tb_5 94 rfl) rfl
theorem m540 : Cond.methodLink RX12 146 yX12_isGood ∈ gt := gt_t (tb_5 91 rfl) rfl
theorem m541 : Cond.instanceMethod yX12_isGood ∈ gt := gt_t (tb_5 93 rfl) rfl
theorem m542 : Cond.selects RX12 yX12_isGood yX12_isGood ∈ gt := gt_s (pr_s (q := (yX12_isGood, 44)) (List.mem_of_getElem? (i := 61) rfl)) rfl
theorem m543 : Cond.code yX12_faultOf cX12_faultOf 2 (some .int) ∈ gt := gt_t (tb_5 90 rfl) rfl
theorem m544 : Cond.methodLink RX12 149 yX12_faultOf ∈ gt := gt_t (tb_5 87 rfl) rfl
theorem m545 : Cond.instanceMethod yX12_faultOf ∈ gt := gt_t (tb_5 89 rfl) rfl
theorem m546 : Cond.selects RX12 yX12_faultOf yX12_faultOf ∈ gt := gt_s (pr_s (q := (yX12_faultOf, 44)) (List.mem_of_getElem? (i := 60) rfl)) rfl
theorem m547 : Cond.code yX12_fault cX12_fault 1 (some .int) ∈ gt := gt_t (tb_5 86 rfl) rfl
theorem m548 : Cond.fieldLink RX12 153 "DebtRoomsModel" "rooms" "I" ∈ gt := gt_t (tb_4 182 rfl) rfl
theorem m549 : Cond.fieldLink RX12 156 "DebtRoomsModel" "doors" "I" ∈ gt := gt_t (tb_4 183 rfl) rfl
theorem m550 : Cond.fieldLink RX12 159 "DebtRoomsModel" "people" "I" ∈ gt := gt_t (tb_4 184 rfl) rfl
theorem m551 : Cond.fieldLink RX12 162 "DebtRoomsModel" "debts" "I" ∈ gt := gt_t (tb_4 185 rfl) rfl
theorem m552 : Cond.fieldLink RX12 13 "DebtRoomsModel" "one" "[I" ∈ gt := gt_t (tb_4 188 rfl) rfl
theorem m553 : Cond.fieldLink RX12 16 "DebtRoomsModel" "other" "[I" ∈ gt := gt_t (tb_4 189 rfl) rfl
theorem m554 : Cond.fieldLink RX12 19 "DebtRoomsModel" "locks" "[I" ∈ gt := gt_t (tb_4 190 rfl) rfl
theorem m555 : Cond.methodLink RX12 165 yX12_lockBy ∈ gt := gt_t (tb_5 127 rfl) rfl
theorem m556 : Cond.static yX12_lockBy ∈ gt := gt_t (tb_5 128 rfl) rfl
theorem m557 : Cond.fieldLink RX12 22 "DebtRoomsModel" "kinds" "[I" ∈ gt := gt_t (tb_4 191 rfl) rfl
theorem m558 : Cond.fieldLink RX12 25 "DebtRoomsModel" "purses" "[I" ∈ gt := gt_t (tb_4 192 rfl) rfl
theorem m559 : Cond.fieldLink RX12 28 "DebtRoomsModel" "places" "[I" ∈ gt := gt_t (tb_4 193 rfl) rfl
theorem m560 : Cond.fieldLink RX12 31 "DebtRoomsModel" "keys" "[I" ∈ gt := gt_t (tb_4 194 rfl) rfl
theorem m561 : Cond.fieldLink RX12 168 "DebtRoomsModel" "gone" "I" ∈ gt := gt_t (tb_4 186 rfl) rfl
theorem m562 : Cond.fieldLink RX12 171 "DebtRoomsModel" "seenMany" "I" ∈ gt := gt_t (tb_4 209 rfl) rfl
theorem m563 : Cond.fieldLink RX12 174 "DebtRoomsModel" "housesRead" "I" ∈ gt := gt_t (tb_4 187 rfl) rfl
theorem m564 : Cond.fieldLink RX12 34 "DebtRoomsModel" "owers" "[I" ∈ gt := gt_t (tb_4 195 rfl) rfl
theorem m565 : Cond.fieldLink RX12 37 "DebtRoomsModel" "owed" "[I" ∈ gt := gt_t (tb_4 196 rfl) rfl
theorem m566 : Cond.fieldLink RX12 40 "DebtRoomsModel" "debtRooms" "[I" ∈ gt := gt_t (tb_4 197 rfl) rfl
theorem m567 : Cond.fieldLink RX12 43 "DebtRoomsModel" "sums" "[I" ∈ gt := gt_t (tb_4 198 rfl) rfl
theorem m568 : Cond.fieldLink RX12 46 "DebtRoomsModel" "paid" "[I" ∈ gt := gt_t (tb_4 199 rfl) rfl
theorem m569 : Cond.code yX12_house cX12_house 3 (some .int) ∈ gt := gt_t (tb_5 126 rfl) rfl
theorem m570 : Cond.code yX12_lacks cX12_lacks 1 (some .boolean) ∈ gt := gt_t (tb_6 69 rfl) rfl
theorem m571 : Cond.code yX12_isPerson cX12_isPerson 2 (some .boolean) ∈ gt := gt_t (tb_5 137 rfl) rfl
theorem m572 : Cond.code yX12_isDoor cX12_isDoor 2 (some .boolean) ∈ gt := gt_t (tb_5 201 rfl) rfl
theorem m573 : Cond.code yX12_isDebt cX12_isDebt 2 (some .boolean) ∈ gt := gt_t (tb_5 213 rfl) rfl
theorem m574 : Cond.code yX12_isRoom cX12_isRoom 2 (some .boolean) ∈ gt := gt_t (tb_6 10 rfl) rfl
theorem m575 : Cond.code yX12_isRich cX12_isRich 2 (some .boolean) ∈ gt := gt_t (tb_5 157 rfl) rfl
theorem m576 : Cond.code yX12_costs cX12_costs 2 (some .int) ∈ gt := gt_t (tb_5 176 rfl) rfl
theorem m577 : Cond.fieldLink RX12 49 "DebtRoomsModel" "pursesThen" "[I" ∈ gt := gt_t (tb_4 200 rfl) rfl
theorem m578 : Cond.methodLink RX12 177 yX12_copy ∈ gt := gt_t (tb_5 166 rfl) rfl
theorem m579 : Cond.static yX12_copy ∈ gt := gt_t (tb_5 167 rfl) rfl
theorem m580 : Cond.fieldLink RX12 52 "DebtRoomsModel" "placesThen" "[I" ∈ gt := gt_t (tb_4 201 rfl) rfl
theorem m581 : Cond.fieldLink RX12 55 "DebtRoomsModel" "paidThen" "[I" ∈ gt := gt_t (tb_4 202 rfl) rfl
theorem m582 : Cond.code yX12_begin cX12_begin 1 none ∈ gt := gt_t (tb_5 165 rfl) rfl
theorem m583 : Cond.methodLink RX12 181 yX12_isRich ∈ gt := gt_t (tb_5 154 rfl) rfl
theorem m584 : Cond.instanceMethod yX12_isRich ∈ gt := gt_t (tb_5 156 rfl) rfl
theorem m585 : Cond.selects RX12 yX12_isRich yX12_isRich ∈ gt := gt_s (pr_s (q := (yX12_isRich, 44)) (List.mem_of_getElem? (i := 72) rfl)) rfl
theorem m586 : Cond.code yX12_through cX12_through 6 (some .int) ∈ gt := gt_t (tb_5 153 rfl) rfl
theorem m587 : Cond.methodLink RX12 184 yX12_costs ∈ gt := gt_t (tb_5 173 rfl) rfl
theorem m588 : Cond.instanceMethod yX12_costs ∈ gt := gt_t (tb_5 175 rfl) rfl
theorem m589 : Cond.selects RX12 yX12_costs yX12_costs ∈ gt := gt_s (pr_s (q := (yX12_costs, 44)) (List.mem_of_getElem? (i := 76) rfl)) rfl
theorem m590 : Cond.code yX12_mayThen cX12_mayThen 4 (some .boolean) ∈ gt := gt_t (tb_5 172 rfl) rfl
theorem m591 : Cond.code yX12_payThen cX12_payThen 3 none ∈ gt := gt_t (tb_5 233 rfl) rfl
theorem m592 : Cond.code yX12_keysOf cX12_keysOf 2 (some .int) ∈ gt := gt_t (tb_5 145 rfl) rfl
theorem m593 : Cond.methodLink RX12 187 yX12_through ∈ gt := gt_t (tb_5 150 rfl) rfl
theorem m594 : Cond.instanceMethod yX12_through ∈ gt := gt_t (tb_5 152 rfl) rfl
theorem m595 : Cond.selects RX12 yX12_through yX12_through ∈ gt := gt_s (pr_s (q := (yX12_through, 44)) (List.mem_of_getElem? (i := 71) rfl)) rfl
theorem m596 : Cond.code yX12_doorsOf cX12_doorsOf 4 (some .int) ∈ gt := gt_t (tb_5 149 rfl) rfl
theorem m597 : Cond.methodLink RX12 191 yX12_begin ∈ gt := gt_t (tb_5 162 rfl) rfl
theorem m598 : Cond.instanceMethod yX12_begin ∈ gt := gt_t (tb_5 164 rfl) rfl
theorem m599 : Cond.selects RX12 yX12_begin yX12_begin ∈ gt := gt_s (pr_s (q := (yX12_begin, 44)) (List.mem_of_getElem? (i := 74) rfl)) rfl
theorem m600 : Cond.methodLink RX12 194 yX12_mayThen ∈ gt := gt_t (tb_5 169 rfl) rfl
theorem m601 : Cond.instanceMethod yX12_mayThen ∈ gt := gt_t (tb_5 171 rfl) rfl
theorem m602 : Cond.selects RX12 yX12_mayThen yX12_mayThen ∈ gt := gt_s (pr_s (q := (yX12_mayThen, 44)) (List.mem_of_getElem? (i := 75) rfl)) rfl
theorem m603 : Cond.code yX12_mayPay cX12_mayPay 4 (some .int) ∈ gt := gt_t (tb_5 161 rfl) rfl
theorem m604 : Cond.code yX12_standing cX12_standing 4 (some .int) ∈ gt := gt_t (tb_5 180 rfl) rfl
theorem m605 : Cond.fieldLink RX12 76 "DebtRoomsModel" "sights" "[I" ∈ gt := gt_t (tb_4 210 rfl) rfl
theorem m606 : Cond.code yX12_pursesOf cX12_pursesOf 6 (some .int) ∈ gt := gt_t (tb_5 184 rfl) rfl
theorem m607 : Cond.methodLink RX12 209 yX12_pursesOf ∈ gt := gt_t (tb_5 181 rfl) rfl
theorem m608 : Cond.instanceMethod yX12_pursesOf ∈ gt := gt_t (tb_5 183 rfl) rfl
theorem m609 : Cond.selects RX12 yX12_pursesOf yX12_pursesOf ∈ gt := gt_s (pr_s (q := (yX12_pursesOf, 44)) (List.mem_of_getElem? (i := 78) rfl)) rfl
theorem m610 : Cond.code yX12_pressOf cX12_pressOf 9 (some .int) ∈ gt := gt_t (tb_5 188 rfl) rfl
theorem m611 : Cond.methodLink RX12 197 yX12_keysOf ∈ gt := gt_t (tb_5 142 rfl) rfl
theorem m612 : Cond.instanceMethod yX12_keysOf ∈ gt := gt_t (tb_5 144 rfl) rfl
theorem m613 : Cond.selects RX12 yX12_keysOf yX12_keysOf ∈ gt := gt_s (pr_s (q := (yX12_keysOf, 44)) (List.mem_of_getElem? (i := 69) rfl)) rfl
theorem m614 : Cond.methodLink RX12 200 yX12_doorsOf ∈ gt := gt_t (tb_5 146 rfl) rfl
theorem m615 : Cond.instanceMethod yX12_doorsOf ∈ gt := gt_t (tb_5 148 rfl) rfl
theorem m616 : Cond.selects RX12 yX12_doorsOf yX12_doorsOf ∈ gt := gt_s (pr_s (q := (yX12_doorsOf, 44)) (List.mem_of_getElem? (i := 70) rfl)) rfl
theorem m617 : Cond.methodLink RX12 203 yX12_mayPay ∈ gt := gt_t (tb_5 158 rfl) rfl
theorem m618 : Cond.instanceMethod yX12_mayPay ∈ gt := gt_t (tb_5 160 rfl) rfl
theorem m619 : Cond.selects RX12 yX12_mayPay yX12_mayPay ∈ gt := gt_s (pr_s (q := (yX12_mayPay, 44)) (List.mem_of_getElem? (i := 73) rfl)) rfl
theorem m620 : Cond.methodLink RX12 206 yX12_standing ∈ gt := gt_t (tb_5 177 rfl) rfl
theorem m621 : Cond.instanceMethod yX12_standing ∈ gt := gt_t (tb_5 179 rfl) rfl
theorem m622 : Cond.selects RX12 yX12_standing yX12_standing ∈ gt := gt_s (pr_s (q := (yX12_standing, 44)) (List.mem_of_getElem? (i := 77) rfl)) rfl
theorem m623 : Cond.methodLink RX12 212 yX12_pressOf ∈ gt := gt_t (tb_5 185 rfl) rfl
theorem m624 : Cond.instanceMethod yX12_pressOf ∈ gt := gt_t (tb_5 187 rfl) rfl
theorem m625 : Cond.selects RX12 yX12_pressOf yX12_pressOf ∈ gt := gt_s (pr_s (q := (yX12_pressOf, 44)) (List.mem_of_getElem? (i := 79) rfl)) rfl
theorem m626 : Cond.code yX12_tellPerson cX12_tellPerson 3 (some .int) ∈ gt := gt_t (tb_5 141 rfl) rfl
theorem m627 : Cond.methodLink RX12 215 yX12_isPerson ∈ gt := gt_t (tb_5 134 rfl) rfl
theorem m628 : Cond.instanceMethod yX12_isPerson ∈ gt := gt_t (tb_5 136 rfl) rfl
theorem m629 : Cond.selects RX12 yX12_isPerson yX12_isPerson ∈ gt := gt_s (pr_s (q := (yX12_isPerson, 44)) (List.mem_of_getElem? (i := 67) rfl)) rfl
theorem m630 : Cond.methodLink RX12 218 yX12_tellPerson ∈ gt := gt_t (tb_5 138 rfl) rfl
theorem m631 : Cond.instanceMethod yX12_tellPerson ∈ gt := gt_t (tb_5 140 rfl) rfl
theorem m632 : Cond.selects RX12 yX12_tellPerson yX12_tellPerson ∈ gt := gt_s (pr_s (q := (yX12_tellPerson, 44)) (List.mem_of_getElem? (i := 68) rfl)) rfl
theorem m633 : Cond.code yX12_person cX12_person 3 (some .int) ∈ gt := gt_t (tb_5 133 rfl) rfl
theorem m634 : Cond.constantLong RX12 222 (4) ∈ gt := gt_t (tb_5 193 rfl) rfl
theorem m635 : Cond.code yX12_as cX12_as 4 (some .int) ∈ gt := gt_t (tb_5 192 rfl) rfl
theorem m636 : Cond.code yX12_tellDoor cX12_tellDoor 3 (some .int) ∈ gt := gt_t (tb_5 205 rfl) rfl
theorem m637 : Cond.methodLink RX12 224 yX12_isDoor ∈ gt := gt_t (tb_5 198 rfl) rfl
theorem m638 : Cond.instanceMethod yX12_isDoor ∈ gt := gt_t (tb_5 200 rfl) rfl
theorem m639 : Cond.selects RX12 yX12_isDoor yX12_isDoor ∈ gt := gt_s (pr_s (q := (yX12_isDoor, 44)) (List.mem_of_getElem? (i := 80) rfl)) rfl
theorem m640 : Cond.methodLink RX12 227 yX12_tellDoor ∈ gt := gt_t (tb_5 202 rfl) rfl
theorem m641 : Cond.instanceMethod yX12_tellDoor ∈ gt := gt_t (tb_5 204 rfl) rfl
theorem m642 : Cond.selects RX12 yX12_tellDoor yX12_tellDoor ∈ gt := gt_s (pr_s (q := (yX12_tellDoor, 44)) (List.mem_of_getElem? (i := 81) rfl)) rfl
theorem m643 : Cond.code yX12_door cX12_door 3 (some .int) ∈ gt := gt_t (tb_5 197 rfl) rfl
theorem m644 : Cond.code yX12_tellDebt cX12_tellDebt 3 (some .int) ∈ gt := gt_t (tb_5 217 rfl) rfl
theorem m645 : Cond.methodLink RX12 230 yX12_isDebt ∈ gt := gt_t (tb_5 210 rfl) rfl
theorem m646 : Cond.instanceMethod yX12_isDebt ∈ gt := gt_t (tb_5 212 rfl) rfl
theorem m647 : Cond.selects RX12 yX12_isDebt yX12_isDebt ∈ gt := gt_s (pr_s (q := (yX12_isDebt, 44)) (List.mem_of_getElem? (i := 82) rfl)) rfl
theorem m648 : Cond.methodLink RX12 233 yX12_tellDebt ∈ gt := gt_t (tb_5 214 rfl) rfl
theorem m649 : Cond.instanceMethod yX12_tellDebt ∈ gt := gt_t (tb_5 216 rfl) rfl
theorem m650 : Cond.selects RX12 yX12_tellDebt yX12_tellDebt ∈ gt := gt_s (pr_s (q := (yX12_tellDebt, 44)) (List.mem_of_getElem? (i := 83) rfl)) rfl
theorem m651 : Cond.code yX12_debt cX12_debt 3 (some .int) ∈ gt := gt_t (tb_5 209 rfl) rfl
theorem m652 : Cond.code yX12_go cX12_go 4 (some .int) ∈ gt := gt_t (tb_5 221 rfl) rfl
theorem m653 : Cond.code yX12_give cX12_give 4 (some .int) ∈ gt := gt_t (tb_5 225 rfl) rfl
theorem m654 : Cond.methodLink RX12 236 yX12_payThen ∈ gt := gt_t (tb_5 230 rfl) rfl
theorem m655 : Cond.instanceMethod yX12_payThen ∈ gt := gt_t (tb_5 232 rfl) rfl
theorem m656 : Cond.selects RX12 yX12_payThen yX12_payThen ∈ gt := gt_s (pr_s (q := (yX12_payThen, 44)) (List.mem_of_getElem? (i := 84) rfl)) rfl
theorem m657 : Cond.code yX12_pay cX12_pay 2 (some .int) ∈ gt := gt_t (tb_5 229 rfl) rfl
theorem m658 : Cond.constantLong RX12 240 (9) ∈ gt := gt_t (tb_5 238 rfl) rfl
theorem m659 : Cond.code yX12_earn cX12_earn 3 (some .int) ∈ gt := gt_t (tb_5 237 rfl) rfl
theorem m660 : Cond.code yX12_owe cX12_owe 4 (some .int) ∈ gt := gt_t (tb_6 2 rfl) rfl
theorem m661 : Cond.fieldLink RX12 58 "DebtRoomsModel" "far" "[I" ∈ gt := gt_t (tb_4 203 rfl) rfl
theorem m662 : Cond.code yX12_layFar cX12_layFar 7 none ∈ gt := gt_t (tb_6 20 rfl) rfl
theorem m663 : Cond.methodLink RX12 242 yX12_layFar ∈ gt := gt_t (tb_6 17 rfl) rfl
theorem m664 : Cond.instanceMethod yX12_layFar ∈ gt := gt_t (tb_6 19 rfl) rfl
theorem m665 : Cond.selects RX12 yX12_layFar yX12_layFar ∈ gt := gt_s (pr_s (q := (yX12_layFar, 44)) (List.mem_of_getElem? (i := 87) rfl)) rfl
theorem m666 : Cond.code yX12_wayOf cX12_wayOf 10 (some .int) ∈ gt := gt_t (tb_6 16 rfl) rfl
theorem m667 : Cond.methodLink RX12 246 yX12_isRoom ∈ gt := gt_t (tb_6 7 rfl) rfl
theorem m668 : Cond.instanceMethod yX12_isRoom ∈ gt := gt_t (tb_6 9 rfl) rfl
theorem m669 : Cond.selects RX12 yX12_isRoom yX12_isRoom ∈ gt := gt_s (pr_s (q := (yX12_isRoom, 44)) (List.mem_of_getElem? (i := 85) rfl)) rfl
theorem m670 : Cond.constantLong RX12 249 (10) ∈ gt := gt_t (tb_6 11 rfl) rfl
theorem m671 : Cond.constantLong RX12 251 (14) ∈ gt := gt_t (tb_6 12 rfl) rfl
theorem m672 : Cond.methodLink RX12 253 yX12_wayOf ∈ gt := gt_t (tb_6 13 rfl) rfl
theorem m673 : Cond.instanceMethod yX12_wayOf ∈ gt := gt_t (tb_6 15 rfl) rfl
theorem m674 : Cond.selects RX12 yX12_wayOf yX12_wayOf ∈ gt := gt_s (pr_s (q := (yX12_wayOf, 44)) (List.mem_of_getElem? (i := 86) rfl)) rfl
theorem m675 : Cond.code yX12_way cX12_way 4 (some .int) ∈ gt := gt_t (tb_6 6 rfl) rfl
theorem m676 : Cond.code yX12_payHere cX12_payHere 4 (some .int) ∈ gt := gt_t (tb_6 37 rfl) rfl
theorem m677 : Cond.methodLink RX12 256 yX12_payHere ∈ gt := gt_t (tb_6 34 rfl) rfl
theorem m678 : Cond.instanceMethod yX12_payHere ∈ gt := gt_t (tb_6 36 rfl) rfl
theorem m679 : Cond.selects RX12 yX12_payHere yX12_payHere ∈ gt := gt_s (pr_s (q := (yX12_payHere, 44)) (List.mem_of_getElem? (i := 90) rfl)) rfl
theorem m680 : Cond.code yX12_paysBy cX12_paysBy 9 (some .int) ∈ gt := gt_t (tb_6 33 rfl) rfl
theorem m681 : Cond.methodLink RX12 259 yX12_paysBy ∈ gt := gt_t (tb_6 30 rfl) rfl
theorem m682 : Cond.instanceMethod yX12_paysBy ∈ gt := gt_t (tb_6 32 rfl) rfl
theorem m683 : Cond.selects RX12 yX12_paysBy yX12_paysBy ∈ gt := gt_s (pr_s (q := (yX12_paysBy, 44)) (List.mem_of_getElem? (i := 89) rfl)) rfl
theorem m684 : Cond.code yX12_nightOf cX12_nightOf 9 (some .int) ∈ gt := gt_t (tb_6 29 rfl) rfl
theorem m685 : Cond.constantLong RX12 262 (13) ∈ gt := gt_t (tb_6 25 rfl) rfl
theorem m686 : Cond.methodLink RX12 264 yX12_nightOf ∈ gt := gt_t (tb_6 26 rfl) rfl
theorem m687 : Cond.instanceMethod yX12_nightOf ∈ gt := gt_t (tb_6 28 rfl) rfl
theorem m688 : Cond.selects RX12 yX12_nightOf yX12_nightOf ∈ gt := gt_s (pr_s (q := (yX12_nightOf, 44)) (List.mem_of_getElem? (i := 88) rfl)) rfl
theorem m689 : Cond.code yX12_night cX12_night 4 (some .int) ∈ gt := gt_t (tb_6 24 rfl) rfl
theorem m690 : Cond.code yX12_isOf cX12_isOf 3 (some .boolean) ∈ gt := gt_t (tb_6 57 rfl) rfl
theorem m691 : Cond.methodLink RX12 267 yX12_isOf ∈ gt := gt_t (tb_6 54 rfl) rfl
theorem m692 : Cond.instanceMethod yX12_isOf ∈ gt := gt_t (tb_6 56 rfl) rfl
theorem m693 : Cond.selects RX12 yX12_isOf yX12_isOf ∈ gt := gt_s (pr_s (q := (yX12_isOf, 44)) (List.mem_of_getElem? (i := 94) rfl)) rfl
theorem m694 : Cond.code yX12_topOf cX12_topOf 3 (some .int) ∈ gt := gt_t (tb_6 53 rfl) rfl
theorem m695 : Cond.fieldLink RX12 64 "DebtRoomsModel" "balance" "[I" ∈ gt := gt_t (tb_4 205 rfl) rfl
theorem m696 : Cond.fieldLink RX12 61 "DebtRoomsModel" "less" "[I" ∈ gt := gt_t (tb_4 204 rfl) rfl
theorem m697 : Cond.code yX12_lessBy cX12_lessBy 3 (some .int) ∈ gt := gt_t (tb_6 61 rfl) rfl
theorem m698 : Cond.methodLink RX12 271 yX12_topOf ∈ gt := gt_t (tb_6 50 rfl) rfl
theorem m699 : Cond.instanceMethod yX12_topOf ∈ gt := gt_t (tb_6 52 rfl) rfl
theorem m700 : Cond.selects RX12 yX12_topOf yX12_topOf ∈ gt := gt_s (pr_s (q := (yX12_topOf, 44)) (List.mem_of_getElem? (i := 93) rfl)) rfl
theorem m701 : Cond.methodLink RX12 274 yX12_lessBy ∈ gt := gt_t (tb_6 58 rfl) rfl
theorem m702 : Cond.instanceMethod yX12_lessBy ∈ gt := gt_t (tb_6 60 rfl) rfl
theorem m703 : Cond.selects RX12 yX12_lessBy yX12_lessBy ∈ gt := gt_s (pr_s (q := (yX12_lessBy, 44)) (List.mem_of_getElem? (i := 95) rfl)) rfl
theorem m704 : Cond.fieldLink RX12 67 "DebtRoomsModel" "bestLess" "[I" ∈ gt := gt_t (tb_4 206 rfl) rfl
theorem m705 : Cond.code yX12_layCancel cX12_layCancel 4 (some .int) ∈ gt := gt_t (tb_6 49 rfl) rfl
theorem m706 : Cond.methodLink RX12 277 yX12_layCancel ∈ gt := gt_t (tb_6 46 rfl) rfl
theorem m707 : Cond.instanceMethod yX12_layCancel ∈ gt := gt_t (tb_6 48 rfl) rfl
theorem m708 : Cond.selects RX12 yX12_layCancel yX12_layCancel ∈ gt := gt_s (pr_s (q := (yX12_layCancel, 44)) (List.mem_of_getElem? (i := 92) rfl)) rfl
theorem m709 : Cond.code yX12_cancelOf cX12_cancelOf 4 (some .int) ∈ gt := gt_t (tb_6 45 rfl) rfl
theorem m710 : Cond.methodLink RX12 280 yX12_cancelOf ∈ gt := gt_t (tb_6 42 rfl) rfl
theorem m711 : Cond.instanceMethod yX12_cancelOf ∈ gt := gt_t (tb_6 44 rfl) rfl
theorem m712 : Cond.selects RX12 yX12_cancelOf yX12_cancelOf ∈ gt := gt_s (pr_s (q := (yX12_cancelOf, 44)) (List.mem_of_getElem? (i := 91) rfl)) rfl
theorem m713 : Cond.code yX12_cancel cX12_cancel 3 (some .int) ∈ gt := gt_t (tb_6 41 rfl) rfl
theorem m714 : Cond.code yX12_owesThen cX12_owesThen 4 (some .int) ∈ gt := gt_t (tb_6 77 rfl) rfl
theorem m715 : Cond.methodLink RX12 283 yX12_owesThen ∈ gt := gt_t (tb_6 74 rfl) rfl
theorem m716 : Cond.instanceMethod yX12_owesThen ∈ gt := gt_t (tb_6 76 rfl) rfl
theorem m717 : Cond.selects RX12 yX12_owesThen yX12_owesThen ∈ gt := gt_s (pr_s (q := (yX12_owesThen, 44)) (List.mem_of_getElem? (i := 98) rfl)) rfl
theorem m718 : Cond.code yX12_soundOf cX12_soundOf 5 (some .int) ∈ gt := gt_t (tb_6 73 rfl) rfl
theorem m719 : Cond.methodLink RX12 286 yX12_lacks ∈ gt := gt_t (tb_6 66 rfl) rfl
theorem m720 : Cond.instanceMethod yX12_lacks ∈ gt := gt_t (tb_6 68 rfl) rfl
theorem m721 : Cond.selects RX12 yX12_lacks yX12_lacks ∈ gt := gt_s (pr_s (q := (yX12_lacks, 44)) (List.mem_of_getElem? (i := 96) rfl)) rfl
theorem m722 : Cond.methodLink RX12 290 yX12_soundOf ∈ gt := gt_t (tb_6 70 rfl) rfl
theorem m723 : Cond.instanceMethod yX12_soundOf ∈ gt := gt_t (tb_6 72 rfl) rfl
theorem m724 : Cond.selects RX12 yX12_soundOf yX12_soundOf ∈ gt := gt_s (pr_s (q := (yX12_soundOf, 44)) (List.mem_of_getElem? (i := 97) rfl)) rfl
theorem m725 : Cond.code yX12_sound cX12_sound 1 (some .int) ∈ gt := gt_t (tb_6 65 rfl) rfl
theorem m726 : Cond.fieldLink RX12 73 "DebtRoomsModel" "waysThen" "[I" ∈ gt := gt_t (tb_4 208 rfl) rfl
theorem m727 : Cond.fieldLink RX12 70 "DebtRoomsModel" "ways" "[I" ∈ gt := gt_t (tb_4 207 rfl) rfl
theorem m728 : Cond.code yX12_goAll cX12_goAll 6 none ∈ gt := gt_t (tb_6 90 rfl) rfl
theorem m729 : Cond.methodLink RX12 293 yX12_goAll ∈ gt := gt_t (tb_6 87 rfl) rfl
theorem m730 : Cond.instanceMethod yX12_goAll ∈ gt := gt_t (tb_6 89 rfl) rfl
theorem m731 : Cond.selects RX12 yX12_goAll yX12_goAll ∈ gt := gt_s (pr_s (q := (yX12_goAll, 44)) (List.mem_of_getElem? (i := 100) rfl)) rfl
theorem m732 : Cond.code yX12_metOf cX12_metOf 10 (some .int) ∈ gt := gt_t (tb_6 86 rfl) rfl
theorem m733 : Cond.constantLong RX12 296 (3) ∈ gt := gt_t (tb_6 82 rfl) rfl
theorem m734 : Cond.methodLink RX12 298 yX12_metOf ∈ gt := gt_t (tb_6 83 rfl) rfl
theorem m735 : Cond.instanceMethod yX12_metOf ∈ gt := gt_t (tb_6 85 rfl) rfl
theorem m736 : Cond.selects RX12 yX12_metOf yX12_metOf ∈ gt := gt_s (pr_s (q := (yX12_metOf, 44)) (List.mem_of_getElem? (i := 99) rfl)) rfl
theorem m737 : Cond.code yX12_met cX12_met 5 (some .int) ∈ gt := gt_t (tb_6 81 rfl) rfl
theorem m738 : Cond.code yX12_see cX12_see 3 (some .int) ∈ gt := gt_t (tb_6 94 rfl) rfl
theorem m739 : Cond.code yX12_forget cX12_forget 2 (some .int) ∈ gt := gt_t (tb_6 98 rfl) rfl
theorem m740 : Cond.constantLong RX12 302 (1103515245) ∈ gt := gt_t (tb_6 109 rfl) rfl
theorem m741 : Cond.fieldLink RX12 304 "DebtRoomsModel" "seedNow" "I" ∈ gt := gt_t (tb_4 211 rfl) rfl
theorem m742 : Cond.constantLong RX12 307 (12345) ∈ gt := gt_t (tb_6 110 rfl) rfl
theorem m743 : Cond.constantLong RX12 309 (2147483647) ∈ gt := gt_t (tb_6 111 rfl) rfl
theorem m744 : Cond.constant RX12 311 (65536) ∈ gt := gt_t (tb_6 112 rfl) rfl
theorem m745 : Cond.code yX12_draw cX12_draw 2 (some .int) ∈ gt := gt_t (tb_6 108 rfl) rfl
theorem m746 : Cond.code yX12_payAll cX12_payAll 4 (some .int) ∈ gt := gt_t (tb_6 116 rfl) rfl
theorem m747 : Cond.code yX12_paidMany cX12_paidMany 4 (some .int) ∈ gt := gt_t (tb_6 120 rfl) rfl
theorem m748 : Cond.constantLong RX12 312 (60) ∈ gt := gt_t (tb_6 103 rfl) rfl
theorem m749 : Cond.constantLong RX12 314 (2) ∈ gt := gt_t (tb_6 104 rfl) rfl
theorem m750 : Cond.methodLink RX12 322 yX12_paidMany ∈ gt := gt_t (tb_6 117 rfl) rfl
theorem m751 : Cond.instanceMethod yX12_paidMany ∈ gt := gt_t (tb_6 119 rfl) rfl
theorem m752 : Cond.selects RX12 yX12_paidMany yX12_paidMany ∈ gt := gt_s (pr_s (q := (yX12_paidMany, 44)) (List.mem_of_getElem? (i := 103) rfl)) rfl
theorem m753 : Cond.methodLink RX12 316 yX12_draw ∈ gt := gt_t (tb_6 105 rfl) rfl
theorem m754 : Cond.instanceMethod yX12_draw ∈ gt := gt_t (tb_6 107 rfl) rfl
theorem m755 : Cond.selects RX12 yX12_draw yX12_draw ∈ gt := gt_s (pr_s (q := (yX12_draw, 44)) (List.mem_of_getElem? (i := 101) rfl)) rfl
theorem m756 : Cond.methodLink RX12 319 yX12_payAll ∈ gt := gt_t (tb_6 113 rfl) rfl
theorem m757 : Cond.instanceMethod yX12_payAll ∈ gt := gt_t (tb_6 115 rfl) rfl
theorem m758 : Cond.selects RX12 yX12_payAll yX12_payAll ∈ gt := gt_s (pr_s (q := (yX12_payAll, 44)) (List.mem_of_getElem? (i := 102) rfl)) rfl
theorem m759 : Cond.code yX12_winters cX12_winters 8 (some .int) ∈ gt := gt_t (tb_6 102 rfl) rfl
theorem m760 : Cond.fieldLink RX12 79 "DebtRoomsModel" "keptPurses" "[I" ∈ gt := gt_t (tb_4 215 rfl) rfl
theorem m761 : Cond.fieldLink RX12 82 "DebtRoomsModel" "keptPlaces" "[I" ∈ gt := gt_t (tb_4 216 rfl) rfl
theorem m762 : Cond.fieldLink RX12 85 "DebtRoomsModel" "keptKeys" "[I" ∈ gt := gt_t (tb_4 217 rfl) rfl
theorem m763 : Cond.fieldLink RX12 88 "DebtRoomsModel" "keptSums" "[I" ∈ gt := gt_t (tb_4 218 rfl) rfl
theorem m764 : Cond.fieldLink RX12 91 "DebtRoomsModel" "keptPaid" "[I" ∈ gt := gt_t (tb_4 219 rfl) rfl
theorem m765 : Cond.fieldLink RX12 94 "DebtRoomsModel" "keptSights" "[I" ∈ gt := gt_t (tb_4 220 rfl) rfl
theorem m766 : Cond.fieldLink RX12 326 "DebtRoomsModel" "keptGone" "I" ∈ gt := gt_t (tb_4 213 rfl) rfl
theorem m767 : Cond.fieldLink RX12 329 "DebtRoomsModel" "keptSeen" "I" ∈ gt := gt_t (tb_4 214 rfl) rfl
theorem m768 : Cond.fieldLink RX12 97 "DebtRoomsModel" "keptHouse" "I" ∈ gt := gt_t (tb_4 212 rfl) rfl
theorem m769 : Cond.code yX12_image cX12_image 1 (some .int) ∈ gt := gt_t (tb_6 124 rfl) rfl
theorem m770 : Cond.code yX12_restore cX12_restore 1 (some .int) ∈ gt := gt_t (tb_6 128 rfl) rfl
theorem m771 : Cond.code yX12_owedAll cX12_owedAll 3 (some .int) ∈ gt := gt_t (tb_6 140 rfl) rfl
theorem m772 : Cond.code yX12_pursesAll cX12_pursesAll 3 (some .int) ∈ gt := gt_t (tb_6 144 rfl) rfl
theorem m773 : Cond.methodLink RX12 332 yX12_owedAll ∈ gt := gt_t (tb_6 137 rfl) rfl
theorem m774 : Cond.instanceMethod yX12_owedAll ∈ gt := gt_t (tb_6 139 rfl) rfl
theorem m775 : Cond.selects RX12 yX12_owedAll yX12_owedAll ∈ gt := gt_s (pr_s (q := (yX12_owedAll, 44)) (List.mem_of_getElem? (i := 105) rfl)) rfl
theorem m776 : Cond.methodLink RX12 335 yX12_pursesAll ∈ gt := gt_t (tb_6 141 rfl) rfl
theorem m777 : Cond.instanceMethod yX12_pursesAll ∈ gt := gt_t (tb_6 143 rfl) rfl
theorem m778 : Cond.selects RX12 yX12_pursesAll yX12_pursesAll ∈ gt := gt_s (pr_s (q := (yX12_pursesAll, 44)) (List.mem_of_getElem? (i := 106) rfl)) rfl
theorem m779 : Cond.code yX12_countOf cX12_countOf 2 (some .int) ∈ gt := gt_t (tb_6 136 rfl) rfl
theorem m780 : Cond.methodLink RX12 338 yX12_countOf ∈ gt := gt_t (tb_6 133 rfl) rfl
theorem m781 : Cond.instanceMethod yX12_countOf ∈ gt := gt_t (tb_6 135 rfl) rfl
theorem m782 : Cond.selects RX12 yX12_countOf yX12_countOf ∈ gt := gt_s (pr_s (q := (yX12_countOf, 44)) (List.mem_of_getElem? (i := 104) rfl)) rfl
theorem m783 : Cond.code yX12_count cX12_count 2 (some .int) ∈ gt := gt_t (tb_6 132 rfl) rfl
theorem m784 : Cond.constantLong RX12 341 (31) ∈ gt := gt_t (tb_6 158 rfl) rfl
theorem m785 : Cond.fieldLink RX12 343 "DebtRoomsModel" "hash" "J" ∈ gt := gt_t (tb_4 221 rfl) rfl
theorem m786 : Cond.code yX12_say cX12_say 3 none ∈ gt := gt_t (tb_6 157 rfl) rfl
theorem m787 : Cond.methodLink RX12 347 yX12_say ∈ gt := gt_t (tb_6 154 rfl) rfl
theorem m788 : Cond.instanceMethod yX12_say ∈ gt := gt_t (tb_6 156 rfl) rfl
theorem m789 : Cond.selects RX12 yX12_say yX12_say ∈ gt := gt_s (pr_s (q := (yX12_say, 44)) (List.mem_of_getElem? (i := 108) rfl)) rfl
theorem m790 : Cond.code yX12_sayPerson cX12_sayPerson 3 none ∈ gt := gt_t (tb_6 153 rfl) rfl
theorem m791 : Cond.code yX12_sayThings cX12_sayThings 3 none ∈ gt := gt_t (tb_6 162 rfl) rfl
theorem m792 : Cond.constantLong RX12 351 (1223) ∈ gt := gt_t (tb_6 149 rfl) rfl
theorem m793 : Cond.methodLink RX12 356 yX12_sayThings ∈ gt := gt_t (tb_6 159 rfl) rfl
theorem m794 : Cond.instanceMethod yX12_sayThings ∈ gt := gt_t (tb_6 161 rfl) rfl
theorem m795 : Cond.selects RX12 yX12_sayThings yX12_sayThings ∈ gt := gt_s (pr_s (q := (yX12_sayThings, 44)) (List.mem_of_getElem? (i := 109) rfl)) rfl
theorem m796 : Cond.methodLink RX12 353 yX12_sayPerson ∈ gt := gt_t (tb_6 150 rfl) rfl
theorem m797 : Cond.instanceMethod yX12_sayPerson ∈ gt := gt_t (tb_6 152 rfl) rfl
theorem m798 : Cond.selects RX12 yX12_sayPerson yX12_sayPerson ∈ gt := gt_s (pr_s (q := (yX12_sayPerson, 44)) (List.mem_of_getElem? (i := 107) rfl)) rfl
theorem m799 : Cond.code yX12_digest cX12_digest 2 (some .long) ∈ gt := gt_t (tb_6 148 rfl) rfl
theorem m800 : Cond.methodLink RX11 100 yX7_number ∈ gt := gt_t (tb_3 55 rfl) rfl
theorem m801 : Cond.sameMethod RX7 RX7 "number" "()I" ∈ gt := gt_t (tb_3 58 rfl) rfl
theorem m802 : Cond.selects RX8 yX7_number yX8_number ∈ gt := gt_t (tb_3 68 rfl) rfl
theorem m803 : Cond.instanceMethod yX8_number ∈ gt := gt_t (tb_3 69 rfl) rfl
theorem m804 : Cond.instanceMethod yX7_number ∈ gt := gt_t (tb_3 56 rfl) rfl
theorem m805 : Cond.selects RX1 yX7_number yX1_number ∈ gt := gt_t (tb_3 59 rfl) rfl
theorem m806 : Cond.instanceMethod yX1_number ∈ gt := gt_t (tb_3 60 rfl) rfl
theorem m807 : Cond.selects RX3 yX7_number yX3_number ∈ gt := gt_t (tb_3 65 rfl) rfl
theorem m808 : Cond.instanceMethod yX3_number ∈ gt := gt_t (tb_3 66 rfl) rfl
theorem m809 : Cond.selects RX2 yX7_number yX2_number ∈ gt := gt_t (tb_3 62 rfl) rfl
theorem m810 : Cond.instanceMethod yX2_number ∈ gt := gt_t (tb_3 63 rfl) rfl
theorem m811 : Cond.selects RX7 yX7_number yX7_number ∈ gt := gt_t (tb_3 57 rfl) rfl
theorem m812 : Cond.methodLink RX0 54 yX7_passes ∈ gt := gt_t (tb_3 92 rfl) rfl
theorem m813 : Cond.sameMethod RX7 RX7 "passes" "(ZZ)Z" ∈ gt := gt_t (tb_3 95 rfl) rfl
theorem m814 : Cond.selects RX8 yX7_passes yX8_passes ∈ gt := gt_t (tb_3 103 rfl) rfl
theorem m815 : Cond.instanceMethod yX8_passes ∈ gt := gt_t (tb_3 100 rfl) rfl
theorem m816 : Cond.instanceMethod yX7_passes ∈ gt := gt_t (tb_3 93 rfl) rfl
theorem m817 : Cond.selects RX1 yX7_passes yX1_passes ∈ gt := gt_t (tb_3 96 rfl) rfl
theorem m818 : Cond.instanceMethod yX1_passes ∈ gt := gt_t (tb_3 97 rfl) rfl
theorem m819 : Cond.selects RX3 yX7_passes yX7_passes ∈ gt := gt_t (tb_3 102 rfl) rfl
theorem m820 : Cond.selects RX2 yX7_passes yX8_passes ∈ gt := gt_t (tb_3 99 rfl) rfl
theorem m821 : Cond.selects RX7 yX7_passes yX7_passes ∈ gt := gt_t (tb_3 94 rfl) rfl
theorem m822 : Cond.methodLink RX0 74 yX7_costOfSum ∈ gt := gt_t (tb_3 117 rfl) rfl
theorem m823 : Cond.sameMethod RX7 RX7 "costOfSum" "(I)I" ∈ gt := gt_t (tb_3 120 rfl) rfl
theorem m824 : Cond.selects RX8 yX7_costOfSum yX8_costOfSum ∈ gt := gt_t (tb_3 126 rfl) rfl
theorem m825 : Cond.instanceMethod yX8_costOfSum ∈ gt := gt_t (tb_3 127 rfl) rfl
theorem m826 : Cond.instanceMethod yX7_costOfSum ∈ gt := gt_t (tb_3 118 rfl) rfl
theorem m827 : Cond.selects RX1 yX7_costOfSum yX7_costOfSum ∈ gt := gt_t (tb_3 121 rfl) rfl
theorem m828 : Cond.selects RX3 yX7_costOfSum yX7_costOfSum ∈ gt := gt_t (tb_3 125 rfl) rfl
theorem m829 : Cond.selects RX2 yX7_costOfSum yX2_costOfSum ∈ gt := gt_t (tb_3 122 rfl) rfl
theorem m830 : Cond.instanceMethod yX2_costOfSum ∈ gt := gt_t (tb_3 123 rfl) rfl
theorem m831 : Cond.selects RX7 yX7_costOfSum yX7_costOfSum ∈ gt := gt_t (tb_3 119 rfl) rfl
theorem m832 : Cond.methodLink RX0 87 yX7_mayPayFrom ∈ gt := gt_t (tb_3 130 rfl) rfl
theorem m833 : Cond.sameMethod RX7 RX7 "mayPayFrom" "(ZZ)Z" ∈ gt := gt_t (tb_3 133 rfl) rfl
theorem m834 : Cond.selects RX8 yX7_mayPayFrom yX8_mayPayFrom ∈ gt := gt_t (tb_3 141 rfl) rfl
theorem m835 : Cond.instanceMethod yX8_mayPayFrom ∈ gt := gt_t (tb_3 136 rfl) rfl
theorem m836 : Cond.instanceMethod yX7_mayPayFrom ∈ gt := gt_t (tb_3 131 rfl) rfl
theorem m837 : Cond.selects RX1 yX7_mayPayFrom yX7_mayPayFrom ∈ gt := gt_t (tb_3 134 rfl) rfl
theorem m838 : Cond.selects RX3 yX7_mayPayFrom yX3_mayPayFrom ∈ gt := gt_t (tb_3 138 rfl) rfl
theorem m839 : Cond.instanceMethod yX3_mayPayFrom ∈ gt := gt_t (tb_3 139 rfl) rfl
theorem m840 : Cond.selects RX2 yX7_mayPayFrom yX8_mayPayFrom ∈ gt := gt_t (tb_3 135 rfl) rfl
theorem m841 : Cond.selects RX7 yX7_mayPayFrom yX7_mayPayFrom ∈ gt := gt_t (tb_3 132 rfl) rfl
theorem m842 : Cond.classLink RX4 37 RX8 ∈ gt := gt_t (tb_3 11 rfl) rfl
theorem m843 : Cond.castable RX2 RX8 ∈ tables_1 := tb_6 163 rfl
theorem m844 : Cond.classLink RX4 40 RX1 ∈ gt := gt_t (tb_3 18 rfl) rfl
theorem m845 : Cond.classLink RX4 43 RX3 ∈ gt := gt_t (tb_3 25 rfl) rfl
theorem m846 : Cond.classLink RX4 46 RX2 ∈ gt := gt_t (tb_3 32 rfl) rfl
theorem m847 : Cond.laysFinal RX0 "DebtRooms$Affairs" "plan" "LDebtRooms$House;" ∈ gt := gt_t (tb_1 192 rfl) rfl
theorem m848 : Cond.laysFinal RX0 "DebtRooms$Affairs" "purse" "[I" ∈ gt := gt_t (tb_1 194 rfl) rfl
theorem m849 : Cond.laysFinal RX0 "DebtRooms$Affairs" "room" "[I" ∈ gt := gt_t (tb_1 196 rfl) rfl
theorem m850 : Cond.laysFinal RX0 "DebtRooms$Affairs" "holder" "[I" ∈ gt := gt_t (tb_1 198 rfl) rfl
theorem m851 : Cond.laysFinal RX0 "DebtRooms$Affairs" "sum" "[I" ∈ gt := gt_t (tb_1 200 rfl) rfl
theorem m852 : Cond.laysFinal RX0 "DebtRooms$Affairs" "paid" "[Z" ∈ gt := gt_t (tb_1 202 rfl) rfl
theorem m853 : Cond.laysFinal RX0 "DebtRooms$Affairs" "seenDebt" "[I" ∈ gt := gt_t (tb_1 204 rfl) rfl
theorem m854 : Cond.laysFinal RX0 "DebtRooms$Affairs" "seenCould" "[Z" ∈ gt := gt_t (tb_1 206 rfl) rfl
theorem m855 : Cond.lays RX0 "DebtRooms$Affairs" "seen" "I" ∈ gt := gt_t (tb_1 208 rfl) rfl
theorem m856 : Cond.lays RX0 "DebtRooms$Affairs" "gone" "I" ∈ gt := gt_t (tb_1 210 rfl) rfl
theorem m857 : Cond.lays RX4 "DebtRooms$House" "rooms" "I" ∈ gt := gt_t (tb_1 134 rfl) rfl
theorem m858 : Cond.lays RX4 "DebtRooms$House" "doors" "I" ∈ gt := gt_t (tb_1 136 rfl) rfl
theorem m859 : Cond.lays RX4 "DebtRooms$House" "people" "I" ∈ gt := gt_t (tb_1 138 rfl) rfl
theorem m860 : Cond.lays RX4 "DebtRooms$House" "debts" "I" ∈ gt := gt_t (tb_1 140 rfl) rfl
theorem m861 : Cond.laysFinal RX4 "DebtRooms$House" "oneEnd" "[I" ∈ gt := gt_t (tb_1 142 rfl) rfl
theorem m862 : Cond.laysFinal RX4 "DebtRooms$House" "otherEnd" "[I" ∈ gt := gt_t (tb_1 144 rfl) rfl
theorem m863 : Cond.laysFinal RX4 "DebtRooms$House" "lock" "[I" ∈ gt := gt_t (tb_1 146 rfl) rfl
theorem m864 : Cond.laysFinal RX4 "DebtRooms$House" "kinds" "[LDebtRooms$Person;" ∈ gt := gt_t (tb_1 148 rfl) rfl
theorem m865 : Cond.laysFinal RX4 "DebtRooms$House" "debtor" "[I" ∈ gt := gt_t (tb_1 150 rfl) rfl
theorem m866 : Cond.laysFinal RX4 "DebtRooms$House" "creditor" "[I" ∈ gt := gt_t (tb_1 152 rfl) rfl
theorem m867 : Cond.laysFinal RX4 "DebtRooms$House" "debtRoom" "[I" ∈ gt := gt_t (tb_1 154 rfl) rfl
theorem m868 : Cond.laysFinal RX5 "DebtRooms$Nights" "plan" "LDebtRooms$House;" ∈ gt := gt_t (tb_2 8 rfl) rfl
theorem m869 : Cond.laysFinal RX5 "DebtRooms$Nights" "levels" "[LDebtRooms$Affairs;" ∈ gt := gt_t (tb_2 10 rfl) rfl
theorem m870 : Cond.laysFinal RX5 "DebtRooms$Nights" "path" "[I" ∈ gt := gt_t (tb_2 12 rfl) rfl
theorem m871 : Cond.laysFinal RX5 "DebtRooms$Nights" "best" "[I" ∈ gt := gt_t (tb_2 14 rfl) rfl
theorem m872 : Cond.lays RX5 "DebtRooms$Nights" "most" "I" ∈ gt := gt_t (tb_2 16 rfl) rfl
theorem m873 : Cond.laysFinal RX6 "DebtRooms$Page" "letters" "[I" ∈ gt := gt_t (tb_1 50 rfl) rfl
theorem m874 : Cond.lays RX6 "DebtRooms$Page" "length" "I" ∈ gt := gt_t (tb_1 52 rfl) rfl
theorem m875 : Cond.lays RX6 "DebtRooms$Page" "faultAt" "I" ∈ gt := gt_t (tb_1 54 rfl) rfl
theorem m876 : Cond.lays RX6 "DebtRooms$Page" "isWhole" "Z" ∈ gt := gt_t (tb_1 56 rfl) rfl
theorem m877 : Cond.lays RX6 "DebtRooms$Page" "part" "I" ∈ gt := gt_t (tb_1 58 rfl) rfl
theorem m878 : Cond.lays RX6 "DebtRooms$Page" "field" "I" ∈ gt := gt_t (tb_1 60 rfl) rfl
theorem m879 : Cond.lays RX6 "DebtRooms$Page" "first" "I" ∈ gt := gt_t (tb_1 62 rfl) rfl
theorem m880 : Cond.lays RX6 "DebtRooms$Page" "rooms" "I" ∈ gt := gt_t (tb_1 64 rfl) rfl
theorem m881 : Cond.lays RX6 "DebtRooms$Page" "doors" "I" ∈ gt := gt_t (tb_1 66 rfl) rfl
theorem m882 : Cond.lays RX6 "DebtRooms$Page" "people" "I" ∈ gt := gt_t (tb_1 68 rfl) rfl
theorem m883 : Cond.lays RX6 "DebtRooms$Page" "debts" "I" ∈ gt := gt_t (tb_1 70 rfl) rfl
theorem m884 : Cond.laysFinal RX9 "DebtRooms$Rings" "plan" "LDebtRooms$House;" ∈ gt := gt_t (tb_2 34 rfl) rfl
theorem m885 : Cond.laysFinal RX9 "DebtRooms$Rings" "limit" "[I" ∈ gt := gt_t (tb_2 36 rfl) rfl
theorem m886 : Cond.laysFinal RX9 "DebtRooms$Rings" "less" "[I" ∈ gt := gt_t (tb_2 38 rfl) rfl
theorem m887 : Cond.laysFinal RX9 "DebtRooms$Rings" "best" "[I" ∈ gt := gt_t (tb_2 40 rfl) rfl
theorem m888 : Cond.laysFinal RX9 "DebtRooms$Rings" "lastDebt" "[I" ∈ gt := gt_t (tb_2 42 rfl) rfl
theorem m889 : Cond.laysFinal RX9 "DebtRooms$Rings" "uneven" "[I" ∈ gt := gt_t (tb_2 44 rfl) rfl
theorem m890 : Cond.lays RX9 "DebtRooms$Rings" "most" "I" ∈ gt := gt_t (tb_2 46 rfl) rfl
theorem m891 : Cond.laysFinal RX10 "DebtRooms$Walks" "plan" "LDebtRooms$House;" ∈ gt := gt_t (tb_1 224 rfl) rfl
theorem m892 : Cond.laysFinal RX10 "DebtRooms$Walks" "far" "[I" ∈ gt := gt_t (tb_1 226 rfl) rfl
theorem m893 : Cond.laysFinal RX10 "DebtRooms$Walks" "parts" "[I" ∈ gt := gt_t (tb_1 228 rfl) rfl
theorem m894 : Cond.laysFinal RX10 "DebtRooms$Walks" "next" "[I" ∈ gt := gt_t (tb_1 230 rfl) rfl
theorem m895 : Cond.laysFinal RX11 "DebtRooms" "page" "LDebtRooms$Page;" ∈ gt := gt_t (tb_2 59 rfl) rfl
theorem m896 : Cond.laysFinal RX11 "DebtRooms" "plan" "LDebtRooms$House;" ∈ gt := gt_t (tb_2 61 rfl) rfl
theorem m897 : Cond.laysFinal RX11 "DebtRooms" "now" "LDebtRooms$Affairs;" ∈ gt := gt_t (tb_2 63 rfl) rfl
theorem m898 : Cond.laysFinal RX11 "DebtRooms" "kept" "LDebtRooms$Affairs;" ∈ gt := gt_t (tb_2 65 rfl) rfl
theorem m899 : Cond.laysFinal RX11 "DebtRooms" "trial" "LDebtRooms$Affairs;" ∈ gt := gt_t (tb_2 67 rfl) rfl
theorem m900 : Cond.laysFinal RX11 "DebtRooms" "walks" "LDebtRooms$Walks;" ∈ gt := gt_t (tb_2 69 rfl) rfl
theorem m901 : Cond.laysFinal RX11 "DebtRooms" "nights" "LDebtRooms$Nights;" ∈ gt := gt_t (tb_2 71 rfl) rfl
theorem m902 : Cond.laysFinal RX11 "DebtRooms" "rings" "LDebtRooms$Rings;" ∈ gt := gt_t (tb_2 73 rfl) rfl
theorem m903 : Cond.lays RX11 "DebtRooms" "isKept" "Z" ∈ gt := gt_t (tb_2 75 rfl) rfl
theorem m904 : Cond.lays RX11 "DebtRooms" "readings" "I" ∈ gt := gt_t (tb_2 77 rfl) rfl
theorem m905 : Cond.laysFinal RX12 "DebtRoomsModel" "page" "[I" ∈ gt := gt_t (tb_4 222 rfl) rfl
theorem m906 : Cond.lays RX12 "DebtRoomsModel" "pageMany" "I" ∈ gt := gt_t (tb_4 224 rfl) rfl
theorem m907 : Cond.lays RX12 "DebtRoomsModel" "doorsEnd" "I" ∈ gt := gt_t (tb_4 226 rfl) rfl
theorem m908 : Cond.lays RX12 "DebtRoomsModel" "peopleEnd" "I" ∈ gt := gt_t (tb_4 228 rfl) rfl
theorem m909 : Cond.lays RX12 "DebtRoomsModel" "rooms" "I" ∈ gt := gt_t (tb_4 230 rfl) rfl
theorem m910 : Cond.lays RX12 "DebtRoomsModel" "doors" "I" ∈ gt := gt_t (tb_4 232 rfl) rfl
theorem m911 : Cond.lays RX12 "DebtRoomsModel" "people" "I" ∈ gt := gt_t (tb_4 234 rfl) rfl
theorem m912 : Cond.lays RX12 "DebtRoomsModel" "debts" "I" ∈ gt := gt_t (tb_4 236 rfl) rfl
theorem m913 : Cond.lays RX12 "DebtRoomsModel" "gone" "I" ∈ gt := gt_t (tb_4 238 rfl) rfl
theorem m914 : Cond.lays RX12 "DebtRoomsModel" "housesRead" "I" ∈ gt := gt_t (tb_5 0 rfl) rfl
theorem m915 : Cond.laysFinal RX12 "DebtRoomsModel" "one" "[I" ∈ gt := gt_t (tb_5 2 rfl) rfl
theorem m916 : Cond.laysFinal RX12 "DebtRoomsModel" "other" "[I" ∈ gt := gt_t (tb_5 4 rfl) rfl
theorem m917 : Cond.laysFinal RX12 "DebtRoomsModel" "locks" "[I" ∈ gt := gt_t (tb_5 6 rfl) rfl
theorem m918 : Cond.laysFinal RX12 "DebtRoomsModel" "kinds" "[I" ∈ gt := gt_t (tb_5 8 rfl) rfl
theorem m919 : Cond.laysFinal RX12 "DebtRoomsModel" "purses" "[I" ∈ gt := gt_t (tb_5 10 rfl) rfl
theorem m920 : Cond.laysFinal RX12 "DebtRoomsModel" "places" "[I" ∈ gt := gt_t (tb_5 12 rfl) rfl
theorem m921 : Cond.laysFinal RX12 "DebtRoomsModel" "keys" "[I" ∈ gt := gt_t (tb_5 14 rfl) rfl
theorem m922 : Cond.laysFinal RX12 "DebtRoomsModel" "owers" "[I" ∈ gt := gt_t (tb_5 16 rfl) rfl
theorem m923 : Cond.laysFinal RX12 "DebtRoomsModel" "owed" "[I" ∈ gt := gt_t (tb_5 18 rfl) rfl
theorem m924 : Cond.laysFinal RX12 "DebtRoomsModel" "debtRooms" "[I" ∈ gt := gt_t (tb_5 20 rfl) rfl
theorem m925 : Cond.laysFinal RX12 "DebtRoomsModel" "sums" "[I" ∈ gt := gt_t (tb_5 22 rfl) rfl
theorem m926 : Cond.laysFinal RX12 "DebtRoomsModel" "paid" "[I" ∈ gt := gt_t (tb_5 24 rfl) rfl
theorem m927 : Cond.laysFinal RX12 "DebtRoomsModel" "pursesThen" "[I" ∈ gt := gt_t (tb_5 26 rfl) rfl
theorem m928 : Cond.laysFinal RX12 "DebtRoomsModel" "placesThen" "[I" ∈ gt := gt_t (tb_5 28 rfl) rfl
theorem m929 : Cond.laysFinal RX12 "DebtRoomsModel" "paidThen" "[I" ∈ gt := gt_t (tb_5 30 rfl) rfl
theorem m930 : Cond.laysFinal RX12 "DebtRoomsModel" "far" "[I" ∈ gt := gt_t (tb_5 32 rfl) rfl
theorem m931 : Cond.laysFinal RX12 "DebtRoomsModel" "less" "[I" ∈ gt := gt_t (tb_5 34 rfl) rfl
theorem m932 : Cond.laysFinal RX12 "DebtRoomsModel" "balance" "[I" ∈ gt := gt_t (tb_5 36 rfl) rfl
theorem m933 : Cond.laysFinal RX12 "DebtRoomsModel" "bestLess" "[I" ∈ gt := gt_t (tb_5 38 rfl) rfl
theorem m934 : Cond.laysFinal RX12 "DebtRoomsModel" "ways" "[I" ∈ gt := gt_t (tb_5 40 rfl) rfl
theorem m935 : Cond.laysFinal RX12 "DebtRoomsModel" "waysThen" "[I" ∈ gt := gt_t (tb_5 42 rfl) rfl
theorem m936 : Cond.lays RX12 "DebtRoomsModel" "seenMany" "I" ∈ gt := gt_t (tb_5 44 rfl) rfl
theorem m937 : Cond.laysFinal RX12 "DebtRoomsModel" "sights" "[I" ∈ gt := gt_t (tb_5 46 rfl) rfl
theorem m938 : Cond.lays RX12 "DebtRoomsModel" "seedNow" "I" ∈ gt := gt_t (tb_5 48 rfl) rfl
theorem m939 : Cond.lays RX12 "DebtRoomsModel" "keptHouse" "I" ∈ gt := gt_t (tb_5 50 rfl) rfl
theorem m940 : Cond.lays RX12 "DebtRoomsModel" "keptGone" "I" ∈ gt := gt_t (tb_5 52 rfl) rfl
theorem m941 : Cond.lays RX12 "DebtRoomsModel" "keptSeen" "I" ∈ gt := gt_t (tb_5 54 rfl) rfl
theorem m942 : Cond.laysFinal RX12 "DebtRoomsModel" "keptPurses" "[I" ∈ gt := gt_t (tb_5 56 rfl) rfl
theorem m943 : Cond.laysFinal RX12 "DebtRoomsModel" "keptPlaces" "[I" ∈ gt := gt_t (tb_5 58 rfl) rfl
theorem m944 : Cond.laysFinal RX12 "DebtRoomsModel" "keptKeys" "[I" ∈ gt := gt_t (tb_5 60 rfl) rfl
theorem m945 : Cond.laysFinal RX12 "DebtRoomsModel" "keptSums" "[I" ∈ gt := gt_t (tb_5 62 rfl) rfl
theorem m946 : Cond.laysFinal RX12 "DebtRoomsModel" "keptPaid" "[I" ∈ gt := gt_t (tb_5 64 rfl) rfl
theorem m947 : Cond.laysFinal RX12 "DebtRoomsModel" "keptSights" "[I" ∈ gt := gt_t (tb_5 66 rfl) rfl
theorem m948 : Cond.lays RX12 "DebtRoomsModel" "hash" "J" ∈ gt := gt_t (tb_5 68 rfl) rfl
