theorem bg_1 {w : Cond} (i : Nat) (h : tables_1_1[i]? = some w) (hg : goodWord w = true) : w ∈ BIG := List.mem_filter.mpr ⟨List.mem_append_right _ (by
  have hm := List.mem_of_getElem? h
  unfold tables_1
  simp only [List.mem_append]
  simp [hm]), hg⟩
theorem bg_2 {w : Cond} (i : Nat) (h : tables_1_2[i]? = some w) (hg : goodWord w = true) : w ∈ BIG := List.mem_filter.mpr ⟨List.mem_append_right _ (by
  have hm := List.mem_of_getElem? h
  unfold tables_1
  simp only [List.mem_append]
  simp [hm]), hg⟩
theorem bg_3 {w : Cond} (i : Nat) (h : tables_1_3[i]? = some w) (hg : goodWord w = true) : w ∈ BIG := List.mem_filter.mpr ⟨List.mem_append_right _ (by
  have hm := List.mem_of_getElem? h
  unfold tables_1
  simp only [List.mem_append]
  simp [hm]), hg⟩
theorem bg_4 {w : Cond} (i : Nat) (h : tables_1_4[i]? = some w) (hg : goodWord w = true) : w ∈ BIG := List.mem_filter.mpr ⟨List.mem_append_right _ (by
  have hm := List.mem_of_getElem? h
  unfold tables_1
  simp only [List.mem_append]
  simp [hm]), hg⟩
theorem bg_5 {w : Cond} (i : Nat) (h : tables_1_5[i]? = some w) (hg : goodWord w = true) : w ∈ BIG := List.mem_filter.mpr ⟨List.mem_append_right _ (by
  have hm := List.mem_of_getElem? h
  unfold tables_1
  simp only [List.mem_append]
  simp [hm]), hg⟩
theorem bg_6 {w : Cond} (i : Nat) (h : tables_1_6[i]? = some w) (hg : goodWord w = true) : w ∈ BIG := List.mem_filter.mpr ⟨List.mem_append_right _ (by
  have hm := List.mem_of_getElem? h
  unfold tables_1
  simp only [List.mem_append]
  simp [hm]), hg⟩
theorem bg_7 {w : Cond} (i : Nat) (h : tables_1_7[i]? = some w) (hg : goodWord w = true) : w ∈ BIG := List.mem_filter.mpr ⟨List.mem_append_right _ (by
  have hm := List.mem_of_getElem? h
  unfold tables_1
  simp only [List.mem_append]
  simp [hm]), hg⟩
theorem cl_L_7 : Cond.classLink RL 7 RX7 ∈ BIG := bg_1 18 (by decide +kernel) rfl
theorem ml_L_9 : Cond.methodLink RL 9 yX7_init ∈ BIG := bg_1 20 (by decide +kernel) rfl
theorem ml_X7_5 : Cond.methodLink RX7 5 Lib.objectInit ∈ BIG := bg_1 23 (by decide +kernel) rfl
theorem cl_X7_11 : Cond.classLink RX7 11 RX5 ∈ BIG := bg_1 26 (by decide +kernel) rfl
theorem ml_X5_3 : Cond.methodLink RX5 3 Lib.objectInit ∈ BIG := bg_1 31 (by decide +kernel) rfl
theorem fl_X5_9 : Cond.fieldLink RX5 9 "SqueakShop$Text" "signs" "[B" ∈ BIG := bg_1 32 (by decide +kernel) rfl
theorem fl_X5_15 : Cond.fieldLink RX5 15 "SqueakShop$Text" "length" "I" ∈ BIG := bg_1 33 (by decide +kernel) rfl
theorem fl_X7_118 : Cond.fieldLink RX7 118 "SqueakShop$Text" "length" "I" ∈ BIG := bg_1 34 (by decide +kernel) rfl
theorem fl_X5_28 : Cond.fieldLink RX5 28 "SqueakShop$Text" "at" "I" ∈ BIG := bg_1 35 (by decide +kernel) rfl
theorem fl_X7_132 : Cond.fieldLink RX7 132 "SqueakShop$Text" "at" "I" ∈ BIG := bg_1 36 (by decide +kernel) rfl
theorem fl_X5_19 : Cond.fieldLink RX5 19 "SqueakShop$Text" "made" "LSqueakShop$Street;" ∈ BIG := bg_1 37 (by decide +kernel) rfl
theorem cl_X7_18 : Cond.classLink RX7 18 RX3 ∈ BIG := bg_1 48 (by decide +kernel) rfl
theorem cl_X7_24 : Cond.classLink RX7 24 RX6 ∈ BIG := bg_1 50 (by decide +kernel) rfl
theorem ml_X6_3 : Cond.methodLink RX6 3 Lib.objectInit ∈ BIG := bg_1 55 (by decide +kernel) rfl
theorem fl_X6_43 : Cond.fieldLink RX6 43 "SqueakShop$Ways" "sounds" "I" ∈ BIG := bg_1 56 (by decide +kernel) rfl
theorem fl_X6_53 : Cond.fieldLink RX6 53 "SqueakShop$Ways" "calm" "I" ∈ BIG := bg_1 57 (by decide +kernel) rfl
theorem fl_X6_9 : Cond.fieldLink RX6 9 "SqueakShop$Ways" "heard" "[I" ∈ BIG := bg_1 58 (by decide +kernel) rfl
theorem fl_X6_15 : Cond.fieldLink RX6 15 "SqueakShop$Ways" "house" "[I" ∈ BIG := bg_1 59 (by decide +kernel) rfl
theorem fl_X6_18 : Cond.fieldLink RX6 18 "SqueakShop$Ways" "noise" "[I" ∈ BIG := bg_1 60 (by decide +kernel) rfl
theorem fl_X6_21 : Cond.fieldLink RX6 21 "SqueakShop$Ways" "lost" "[Z" ∈ BIG := bg_1 61 (by decide +kernel) rfl
theorem fl_X6_25 : Cond.fieldLink RX6 25 "SqueakShop$Ways" "atLeast" "[I" ∈ BIG := bg_1 62 (by decide +kernel) rfl
theorem fl_X6_28 : Cond.fieldLink RX6 28 "SqueakShop$Ways" "sums" "[I" ∈ BIG := bg_1 63 (by decide +kernel) rfl
theorem fl_X6_31 : Cond.fieldLink RX6 31 "SqueakShop$Ways" "bestHouse" "[I" ∈ BIG := bg_1 64 (by decide +kernel) rfl
theorem fl_X7_181 : Cond.fieldLink RX7 181 "SqueakShop$Ways" "bestHouse" "[I" ∈ BIG := bg_1 65 (by decide +kernel) rfl
theorem fl_X6_84 : Cond.fieldLink RX6 84 "SqueakShop$Ways" "bestGreatest" "I" ∈ BIG := bg_1 66 (by decide +kernel) rfl
theorem fl_X7_184 : Cond.fieldLink RX7 184 "SqueakShop$Ways" "bestGreatest" "I" ∈ BIG := bg_1 67 (by decide +kernel) rfl
theorem fl_X6_87 : Cond.fieldLink RX6 87 "SqueakShop$Ways" "bestTotal" "I" ∈ BIG := bg_1 68 (by decide +kernel) rfl
theorem fl_X7_187 : Cond.fieldLink RX7 187 "SqueakShop$Ways" "bestTotal" "I" ∈ BIG := bg_1 69 (by decide +kernel) rfl
theorem fl_X6_34 : Cond.fieldLink RX6 34 "SqueakShop$Ways" "steps" "[I" ∈ BIG := bg_1 70 (by decide +kernel) rfl
theorem fl_X7_199 : Cond.fieldLink RX7 199 "SqueakShop$Ways" "steps" "[I" ∈ BIG := bg_1 71 (by decide +kernel) rfl
theorem cl_X7_31 : Cond.classLink RX7 31 RX0 ∈ BIG := bg_1 99 (by decide +kernel) rfl
theorem ml_X0_3 : Cond.methodLink RX0 3 Lib.objectInit ∈ BIG := bg_1 104 (by decide +kernel) rfl
theorem fl_X0_35 : Cond.fieldLink RX0 35 "SqueakShop$Acts" "ran" "I" ∈ BIG := bg_1 105 (by decide +kernel) rfl
theorem fl_X7_285 : Cond.fieldLink RX7 285 "SqueakShop$Acts" "ran" "I" ∈ BIG := bg_1 106 (by decide +kernel) rfl
theorem fl_X0_9 : Cond.fieldLink RX0 9 "SqueakShop$Acts" "bodies" "[I" ∈ BIG := bg_1 107 (by decide +kernel) rfl
theorem fl_X7_292 : Cond.fieldLink RX7 292 "SqueakShop$Acts" "bodies" "[I" ∈ BIG := bg_1 108 (by decide +kernel) rfl
theorem fl_X0_15 : Cond.fieldLink RX0 15 "SqueakShop$Acts" "kind" "I" ∈ BIG := bg_1 109 (by decide +kernel) rfl
theorem fl_X0_19 : Cond.fieldLink RX0 19 "SqueakShop$Acts" "i" "I" ∈ BIG := bg_1 110 (by decide +kernel) rfl
theorem fl_X0_22 : Cond.fieldLink RX0 22 "SqueakShop$Acts" "v" "I" ∈ BIG := bg_1 111 (by decide +kernel) rfl
theorem cl_X7_38 : Cond.classLink RX7 38 RX4 ∈ BIG := bg_1 123 (by decide +kernel) rfl
theorem ml_X7_44 : Cond.methodLink RX7 44 yX3_init ∈ BIG := bg_1 126 (by decide +kernel) rfl
theorem ml_X3_3 : Cond.methodLink RX3 3 Lib.objectInit ∈ BIG := bg_1 129 (by decide +kernel) rfl
theorem ml_X3_27 : Cond.methodLink RX3 27 yX3_empty ∈ BIG := bg_1 130 (by decide +kernel) rfl
theorem fl_X3_30 : Cond.fieldLink RX3 30 "SqueakShop$Street" "wall" "I" ∈ BIG := bg_1 134 (by decide +kernel) rfl
theorem fl_X5_46 : Cond.fieldLink RX5 46 "SqueakShop$Street" "wall" "I" ∈ BIG := bg_1 135 (by decide +kernel) rfl
theorem fl_X1_108 : Cond.fieldLink RX1 108 "SqueakShop$Street" "wall" "I" ∈ BIG := bg_1 136 (by decide +kernel) rfl
theorem fl_X7_142 : Cond.fieldLink RX7 142 "SqueakShop$Street" "wall" "I" ∈ BIG := bg_1 137 (by decide +kernel) rfl
theorem fl_X3_34 : Cond.fieldLink RX3 34 "SqueakShop$Street" "calm" "I" ∈ BIG := bg_1 138 (by decide +kernel) rfl
theorem fl_X6_48 : Cond.fieldLink RX6 48 "SqueakShop$Street" "calm" "I" ∈ BIG := bg_1 139 (by decide +kernel) rfl
theorem fl_X5_49 : Cond.fieldLink RX5 49 "SqueakShop$Street" "calm" "I" ∈ BIG := bg_1 140 (by decide +kernel) rfl
theorem fl_X7_145 : Cond.fieldLink RX7 145 "SqueakShop$Street" "calm" "I" ∈ BIG := bg_1 141 (by decide +kernel) rfl
theorem fl_X1_124 : Cond.fieldLink RX1 124 "SqueakShop$Street" "calm" "I" ∈ BIG := bg_1 142 (by decide +kernel) rfl
theorem fl_X3_37 : Cond.fieldLink RX3 37 "SqueakShop$Street" "wear" "I" ∈ BIG := bg_1 143 (by decide +kernel) rfl
theorem fl_X5_52 : Cond.fieldLink RX5 52 "SqueakShop$Street" "wear" "I" ∈ BIG := bg_1 144 (by decide +kernel) rfl
theorem fl_X1_72 : Cond.fieldLink RX1 72 "SqueakShop$Street" "wear" "I" ∈ BIG := bg_1 145 (by decide +kernel) rfl
theorem fl_X7_148 : Cond.fieldLink RX7 148 "SqueakShop$Street" "wear" "I" ∈ BIG := bg_1 146 (by decide +kernel) rfl
theorem fl_X3_40 : Cond.fieldLink RX3 40 "SqueakShop$Street" "clauses" "I" ∈ BIG := bg_1 147 (by decide +kernel) rfl
theorem fl_X1_95 : Cond.fieldLink RX1 95 "SqueakShop$Street" "clauses" "I" ∈ BIG := bg_1 148 (by decide +kernel) rfl
theorem fl_X3_9 : Cond.fieldLink RX3 9 "SqueakShop$Street" "louder" "[I" ∈ BIG := bg_1 149 (by decide +kernel) rfl
theorem fl_X1_102 : Cond.fieldLink RX1 102 "SqueakShop$Street" "louder" "[I" ∈ BIG := bg_1 150 (by decide +kernel) rfl
theorem fl_X3_15 : Cond.fieldLink RX3 15 "SqueakShop$Street" "begins" "[I" ∈ BIG := bg_1 151 (by decide +kernel) rfl
theorem fl_X3_43 : Cond.fieldLink RX3 43 "SqueakShop$Street" "size" "I" ∈ BIG := bg_1 152 (by decide +kernel) rfl
theorem fl_X3_18 : Cond.fieldLink RX3 18 "SqueakShop$Street" "operator" "[I" ∈ BIG := bg_1 153 (by decide +kernel) rfl
theorem fl_X3_21 : Cond.fieldLink RX3 21 "SqueakShop$Street" "order" "[I" ∈ BIG := bg_1 154 (by decide +kernel) rfl
theorem fl_X3_24 : Cond.fieldLink RX3 24 "SqueakShop$Street" "number" "[I" ∈ BIG := bg_1 155 (by decide +kernel) rfl
theorem cl_X7_45 : Cond.classLink RX7 45 RX1 ∈ BIG := bg_1 177 (by decide +kernel) rfl
theorem ml_X7_47 : Cond.methodLink RX7 47 yX1_init ∈ BIG := bg_1 179 (by decide +kernel) rfl
theorem ml_X1_3 : Cond.methodLink RX1 3 Lib.objectInit ∈ BIG := bg_1 182 (by decide +kernel) rfl
theorem cl_X1_27 : Cond.classLink RX1 27 RX2 ∈ BIG := bg_1 183 (by decide +kernel) rfl
theorem ml_X1_29 : Cond.methodLink RX1 29 yX2_init ∈ BIG := bg_1 185 (by decide +kernel) rfl
theorem ml_X2_1 : Cond.methodLink RX2 1 Lib.objectInit ∈ BIG := bg_1 188 (by decide +kernel) rfl
theorem fl_X2_19 : Cond.fieldLink RX2 19 "SqueakShop$Rows" "count" "I" ∈ BIG := bg_1 189 (by decide +kernel) rfl
theorem fl_X7_226 : Cond.fieldLink RX7 226 "SqueakShop$Rows" "count" "I" ∈ BIG := bg_1 190 (by decide +kernel) rfl
theorem fl_X2_7 : Cond.fieldLink RX2 7 "SqueakShop$Rows" "first" "[I" ∈ BIG := bg_1 191 (by decide +kernel) rfl
theorem fl_X7_232 : Cond.fieldLink RX7 232 "SqueakShop$Rows" "first" "[I" ∈ BIG := bg_1 192 (by decide +kernel) rfl
theorem fl_X2_13 : Cond.fieldLink RX2 13 "SqueakShop$Rows" "second" "[I" ∈ BIG := bg_1 193 (by decide +kernel) rfl
theorem fl_X7_235 : Cond.fieldLink RX7 235 "SqueakShop$Rows" "second" "[I" ∈ BIG := bg_1 194 (by decide +kernel) rfl
theorem fl_X2_16 : Cond.fieldLink RX2 16 "SqueakShop$Rows" "third" "[I" ∈ BIG := bg_1 195 (by decide +kernel) rfl
theorem fl_X7_229 : Cond.fieldLink RX7 229 "SqueakShop$Rows" "third" "[I" ∈ BIG := bg_1 196 (by decide +kernel) rfl
theorem fl_X6_37 : Cond.fieldLink RX6 37 "SqueakShop$Lot" "sounds" "I" ∈ BIG := bg_1 206 (by decide +kernel) rfl
theorem fl_X1_51 : Cond.fieldLink RX1 51 "SqueakShop$Lot" "sounds" "I" ∈ BIG := bg_1 207 (by decide +kernel) rfl
theorem fl_X7_69 : Cond.fieldLink RX7 69 "SqueakShop$Lot" "sounds" "I" ∈ BIG := bg_1 208 (by decide +kernel) rfl
theorem fl_X1_9 : Cond.fieldLink RX1 9 "SqueakShop$Lot" "kind" "[I" ∈ BIG := bg_1 209 (by decide +kernel) rfl
theorem fl_X7_90 : Cond.fieldLink RX7 90 "SqueakShop$Lot" "kind" "[I" ∈ BIG := bg_1 210 (by decide +kernel) rfl
theorem fl_X1_15 : Cond.fieldLink RX1 15 "SqueakShop$Lot" "v" "[I" ∈ BIG := bg_1 211 (by decide +kernel) rfl
theorem fl_X7_94 : Cond.fieldLink RX7 94 "SqueakShop$Lot" "v" "[I" ∈ BIG := bg_1 212 (by decide +kernel) rfl
theorem fl_X1_18 : Cond.fieldLink RX1 18 "SqueakShop$Lot" "loud" "[I" ∈ BIG := bg_1 213 (by decide +kernel) rfl
theorem fl_X7_97 : Cond.fieldLink RX7 97 "SqueakShop$Lot" "loud" "[I" ∈ BIG := bg_1 214 (by decide +kernel) rfl
theorem fl_X1_21 : Cond.fieldLink RX1 21 "SqueakShop$Lot" "house" "[I" ∈ BIG := bg_1 215 (by decide +kernel) rfl
theorem fl_X6_65 : Cond.fieldLink RX6 65 "SqueakShop$Lot" "house" "[I" ∈ BIG := bg_1 216 (by decide +kernel) rfl
theorem fl_X7_100 : Cond.fieldLink RX7 100 "SqueakShop$Lot" "house" "[I" ∈ BIG := bg_1 217 (by decide +kernel) rfl
theorem fl_X1_24 : Cond.fieldLink RX1 24 "SqueakShop$Lot" "more" "[I" ∈ BIG := bg_1 218 (by decide +kernel) rfl
theorem fl_X7_115 : Cond.fieldLink RX7 115 "SqueakShop$Lot" "more" "[I" ∈ BIG := bg_1 219 (by decide +kernel) rfl
theorem fl_X1_61 : Cond.fieldLink RX1 61 "SqueakShop$Lot" "year" "I" ∈ BIG := bg_1 220 (by decide +kernel) rfl
theorem fl_X7_139 : Cond.fieldLink RX7 139 "SqueakShop$Lot" "year" "I" ∈ BIG := bg_1 221 (by decide +kernel) rfl
theorem fl_X1_47 : Cond.fieldLink RX1 47 "SqueakShop$Lot" "street" "LSqueakShop$Street;" ∈ BIG := bg_1 222 (by decide +kernel) rfl
theorem fl_X6_44 : Cond.fieldLink RX6 44 "SqueakShop$Lot" "street" "LSqueakShop$Street;" ∈ BIG := bg_1 223 (by decide +kernel) rfl
theorem fl_X7_135 : Cond.fieldLink RX7 135 "SqueakShop$Lot" "street" "LSqueakShop$Street;" ∈ BIG := bg_1 224 (by decide +kernel) rfl
theorem fl_X1_32 : Cond.fieldLink RX1 32 "SqueakShop$Lot" "seen" "LSqueakShop$Rows;" ∈ BIG := bg_1 225 (by decide +kernel) rfl
theorem fl_X7_202 : Cond.fieldLink RX7 202 "SqueakShop$Lot" "seen" "LSqueakShop$Rows;" ∈ BIG := bg_1 226 (by decide +kernel) rfl
theorem fl_X1_36 : Cond.fieldLink RX1 36 "SqueakShop$Lot" "plan" "LSqueakShop$Rows;" ∈ BIG := bg_1 227 (by decide +kernel) rfl
theorem fl_X7_250 : Cond.fieldLink RX7 250 "SqueakShop$Lot" "plan" "LSqueakShop$Rows;" ∈ BIG := bg_1 228 (by decide +kernel) rfl
theorem fl_X1_39 : Cond.fieldLink RX1 39 "SqueakShop$Lot" "book" "LSqueakShop$Rows;" ∈ BIG := bg_1 229 (by decide +kernel) rfl
theorem fl_X7_262 : Cond.fieldLink RX7 262 "SqueakShop$Lot" "book" "LSqueakShop$Rows;" ∈ BIG := bg_1 230 (by decide +kernel) rfl
theorem fl_X1_44 : Cond.fieldLink RX1 44 "SqueakShop$Lot" "letters" "[I" ∈ BIG := bg_1 231 (by decide +kernel) rfl
theorem ml_X4_3 : Cond.methodLink RX4 3 Lib.objectInit ∈ BIG := bg_2 21 (by decide +kernel) rfl
theorem fl_X4_9 : Cond.fieldLink RX4 9 "SqueakShop$Tape" "sort" "I" ∈ BIG := bg_2 22 (by decide +kernel) rfl
theorem fl_X7_268 : Cond.fieldLink RX7 268 "SqueakShop$Tape" "sort" "I" ∈ BIG := bg_2 23 (by decide +kernel) rfl
theorem fl_X4_19 : Cond.fieldLink RX4 19 "SqueakShop$Tape" "size" "I" ∈ BIG := bg_2 24 (by decide +kernel) rfl
theorem fl_X7_271 : Cond.fieldLink RX7 271 "SqueakShop$Tape" "size" "I" ∈ BIG := bg_2 25 (by decide +kernel) rfl
theorem fl_X4_15 : Cond.fieldLink RX4 15 "SqueakShop$Tape" "items" "[J" ∈ BIG := bg_2 26 (by decide +kernel) rfl
theorem fl_X7_274 : Cond.fieldLink RX7 274 "SqueakShop$Tape" "items" "[J" ∈ BIG := bg_2 27 (by decide +kernel) rfl
theorem fl_X7_50 : Cond.fieldLink RX7 50 "SqueakShop" "now" "LSqueakShop$Lot;" ∈ BIG := bg_2 36 (by decide +kernel) rfl
theorem fl_X7_54 : Cond.fieldLink RX7 54 "SqueakShop" "kept" "LSqueakShop$Lot;" ∈ BIG := bg_2 37 (by decide +kernel) rfl
theorem fl_X7_57 : Cond.fieldLink RX7 57 "SqueakShop" "asked" "LSqueakShop$Lot;" ∈ BIG := bg_2 38 (by decide +kernel) rfl
theorem fl_X7_281 : Cond.fieldLink RX7 281 "SqueakShop" "hasImage" "Z" ∈ BIG := bg_2 39 (by decide +kernel) rfl
theorem fl_X7_14 : Cond.fieldLink RX7 14 "SqueakShop" "text" "LSqueakShop$Text;" ∈ BIG := bg_2 40 (by decide +kernel) rfl
theorem fl_X7_20 : Cond.fieldLink RX7 20 "SqueakShop" "streets" "[LSqueakShop$Street;" ∈ BIG := bg_2 41 (by decide +kernel) rfl
theorem fl_X7_125 : Cond.fieldLink RX7 125 "SqueakShop" "streetsMade" "I" ∈ BIG := bg_2 42 (by decide +kernel) rfl
theorem fl_X7_27 : Cond.fieldLink RX7 27 "SqueakShop" "ways" "LSqueakShop$Ways;" ∈ BIG := bg_2 43 (by decide +kernel) rfl
theorem fl_X7_34 : Cond.fieldLink RX7 34 "SqueakShop" "acts" "LSqueakShop$Acts;" ∈ BIG := bg_2 44 (by decide +kernel) rfl
theorem fl_X7_40 : Cond.fieldLink RX7 40 "SqueakShop" "tapes" "[LSqueakShop$Tape;" ∈ BIG := bg_2 45 (by decide +kernel) rfl
theorem ml_L_13 : Cond.methodLink RL 13 yX7_sound ∈ BIG := bg_2 67 (by decide +kernel) rfl
theorem ml_X7_61 : Cond.methodLink RX7 61 yX7_isIn ∈ BIG := bg_2 71 (by decide +kernel) rfl
theorem ml_X7_65 : Cond.methodLink RX7 65 yX7_isHouse ∈ BIG := bg_2 74 (by decide +kernel) rfl
theorem ml_X7_73 : Cond.methodLink RX7 73 yX1_come ∈ BIG := bg_2 77 (by decide +kernel) rfl
theorem ml_L_18 : Cond.methodLink RL 18 yX7_of ∈ BIG := bg_2 81 (by decide +kernel) rfl
theorem ml_X7_77 : Cond.methodLink RX7 77 yX1_has ∈ BIG := bg_2 85 (by decide +kernel) rfl
theorem ml_X7_80 : Cond.methodLink RX7 80 yX1_isLost ∈ BIG := bg_2 89 (by decide +kernel) rfl
theorem ml_X7_83 : Cond.methodLink RX7 83 yX1_voiceIn ∈ BIG := bg_2 93 (by decide +kernel) rfl
theorem ml_X1_98 : Cond.methodLink RX1 98 yX3_holds ∈ BIG := bg_2 97 (by decide +kernel) rfl
theorem ml_X1_83 : Cond.methodLink RX1 83 yJ9_max_7cf53 ∈ BIG := bg_2 101 (by decide +kernel) rfl
theorem ml_X7_87 : Cond.methodLink RX7 87 yX1_heardIn ∈ BIG := bg_2 104 (by decide +kernel) rfl
theorem ml_X1_75 : Cond.methodLink RX1 75 yX1_isLost ∈ BIG := bg_2 108 (by decide +kernel) rfl
theorem ml_X1_111 : Cond.methodLink RX1 111 yX1_voiceIn ∈ BIG := bg_2 109 (by decide +kernel) rfl
theorem ml_X1_114 : Cond.methodLink RX1 114 yX1_heard ∈ BIG := bg_2 110 (by decide +kernel) rfl
theorem ml_X1_105 : Cond.methodLink RX1 105 yJ9_abs_0f7a4 ∈ BIG := bg_2 114 (by decide +kernel) rfl
theorem ml_X7_103 : Cond.methodLink RX7 103 yX1_wears ∈ BIG := bg_2 117 (by decide +kernel) rfl
theorem ml_L_23 : Cond.methodLink RL 23 yX7_set ∈ BIG := bg_2 121 (by decide +kernel) rfl
theorem ml_L_27 : Cond.methodLink RL 27 yX7_pass ∈ BIG := bg_2 125 (by decide +kernel) rfl
theorem ml_X7_107 : Cond.methodLink RX7 107 yJ9_abs_0f7a4 ∈ BIG := bg_2 129 (by decide +kernel) rfl
theorem ml_X7_112 : Cond.methodLink RX7 112 yX1_noiseOf ∈ BIG := bg_2 130 (by decide +kernel) rfl
theorem ml_X1_118 : Cond.methodLink RX1 118 yX1_heardIn ∈ BIG := bg_2 134 (by decide +kernel) rfl
theorem ml_L_31 : Cond.methodLink RL 31 yX7_lose ∈ BIG := bg_2 135 (by decide +kernel) rfl
theorem ml_L_36 : Cond.methodLink RL 36 yX7_find ∈ BIG := bg_2 139 (by decide +kernel) rfl
theorem ml_L_40 : Cond.methodLink RL 40 yX7_row ∈ BIG := bg_2 143 (by decide +kernel) rfl
theorem ml_L_45 : Cond.methodLink RL 45 yX7_feed ∈ BIG := bg_2 147 (by decide +kernel) rfl
theorem ml_X7_121 : Cond.methodLink RX7 121 yX5_grow ∈ BIG := bg_2 151 (by decide +kernel) rfl
theorem ml_L_49 : Cond.methodLink RL 49 yX7_street ∈ BIG := bg_2 155 (by decide +kernel) rfl
theorem ml_X7_128 : Cond.methodLink RX7 128 yX5_makes ∈ BIG := bg_2 159 (by decide +kernel) rfl
theorem ml_X5_23 : Cond.methodLink RX5 23 yX3_empty ∈ BIG := bg_2 163 (by decide +kernel) rfl
theorem ml_X5_31 : Cond.methodLink RX5 31 yX5_readsClause ∈ BIG := bg_2 164 (by decide +kernel) rfl
theorem ml_X5_39 : Cond.methodLink RX5 39 yX5_readWord ∈ BIG := bg_2 168 (by decide +kernel) rfl
theorem ml_X5_65 : Cond.methodLink RX5 65 yJ0_charAt_5068e ∈ BIG := bg_2 173 (by decide +kernel) rfl
theorem ml_J0_492 : Cond.methodLink RJ0 492 yJ0_isLatin1_aae02 ∈ BIG := bg_2 177 (by decide +kernel) rfl
theorem fl_J0_38 : Cond.fieldLink RJ0 38 "java/lang/String" "COMPACT_STRINGS" "Z" ∈ BIG := bg_2 181 (by decide +kernel) rfl
theorem ml_J0_495 : Cond.methodLink RJ0 495 yJ1_charAt_3b067 ∈ BIG := bg_2 183 (by decide +kernel) rfl
theorem ml_J1_9 : Cond.methodLink RJ1 9 yJ0_checkIndex_df160 ∈ BIG := bg_2 186 (by decide +kernel) rfl
theorem fl_J0_1053 : Cond.fieldLink RJ0 1053 "jdk/internal/util/Preconditions" "SIOOBE_FORMATTER" "Ljava/util/function/BiFunction;" ∈ BIG := bg_2 189 (by decide +kernel) rfl
theorem ml_J0_1059 : Cond.methodLink RJ0 1059 yJ3_checkIndex_8e157 ∈ BIG := bg_2 191 (by decide +kernel) rfl
theorem ml_J0_498 : Cond.methodLink RJ0 498 yJ2_charAt_3b067 ∈ BIG := bg_2 194 (by decide +kernel) rfl
theorem ml_J2_67 : Cond.methodLink RJ2 67 yJ2_checkIndex_2214a ∈ BIG := bg_2 197 (by decide +kernel) rfl
theorem ml_J2_48 : Cond.methodLink RJ2 48 yJ2_length_9d52b ∈ BIG := bg_2 200 (by decide +kernel) rfl
theorem ml_J2_414 : Cond.methodLink RJ2 414 yJ0_checkIndex_df160 ∈ BIG := bg_2 203 (by decide +kernel) rfl
theorem ml_J2_71 : Cond.methodLink RJ2 71 yJ2_getChar_3b067 ∈ BIG := bg_2 204 (by decide +kernel) rfl
theorem fl_J2_44 : Cond.fieldLink RJ2 44 "java/lang/StringUTF16" "$assertionsDisabled" "Z" ∈ BIG := bg_2 207 (by decide +kernel) rfl
theorem fl_J2_59 : Cond.fieldLink RJ2 59 "java/lang/StringUTF16" "HI_BYTE_SHIFT" "I" ∈ BIG := bg_2 209 (by decide +kernel) rfl
theorem fl_J2_63 : Cond.fieldLink RJ2 63 "java/lang/StringUTF16" "LO_BYTE_SHIFT" "I" ∈ BIG := bg_2 211 (by decide +kernel) rfl
theorem ml_X5_71 : Cond.methodLink RX5 71 yJ9_max_7cf53 ∈ BIG := bg_2 213 (by decide +kernel) rfl
theorem ml_X5_35 : Cond.methodLink RX5 35 yX5_readsSign ∈ BIG := bg_2 214 (by decide +kernel) rfl
theorem ml_X5_43 : Cond.methodLink RX5 43 yX5_readNumber ∈ BIG := bg_2 218 (by decide +kernel) rfl
theorem ml_X5_92 : Cond.methodLink RX5 92 yX5_readOneOf ∈ BIG := bg_2 223 (by decide +kernel) rfl
theorem ml_X5_100 : Cond.methodLink RX5 100 yJ0_indexOf_0f7a4 ∈ BIG := bg_2 227 (by decide +kernel) rfl
theorem ml_J0_633 : Cond.methodLink RJ0 633 yJ0_indexOf_7cf53 ∈ BIG := bg_2 231 (by decide +kernel) rfl
theorem ml_J0_505 : Cond.methodLink RJ0 505 yJ0_length_8abf5 ∈ BIG := bg_2 235 (by decide +kernel) rfl
theorem ml_J0_335 : Cond.methodLink RJ0 335 yJ0_coder_7d493 ∈ BIG := bg_2 239 (by decide +kernel) rfl
theorem ml_J0_637 : Cond.methodLink RJ0 637 yJ1_indexOf_4cfef ∈ BIG := bg_3 3 (by decide +kernel) rfl
theorem ml_J1_88 : Cond.methodLink RJ1 88 yJ1_canEncode_9a6ad ∈ BIG := bg_3 6 (by decide +kernel) rfl
theorem ml_J1_92 : Cond.methodLink RJ1 92 yJ9_max_7cf53 ∈ BIG := bg_3 9 (by decide +kernel) rfl
theorem ml_J1_38 : Cond.methodLink RJ1 38 yJ9_min_7cf53 ∈ BIG := bg_3 10 (by decide +kernel) rfl
theorem ml_J1_95 : Cond.methodLink RJ1 95 yJ1_indexOfChar_4cfef ∈ BIG := bg_3 13 (by decide +kernel) rfl
theorem ml_J0_640 : Cond.methodLink RJ0 640 yJ2_indexOf_4cfef ∈ BIG := bg_3 16 (by decide +kernel) rfl
theorem ml_J2_224 : Cond.methodLink RJ2 224 yJ9_max_7cf53 ∈ BIG := bg_3 19 (by decide +kernel) rfl
theorem ml_J2_183 : Cond.methodLink RJ2 183 yJ9_min_7cf53 ∈ BIG := bg_3 20 (by decide +kernel) rfl
theorem kc_J2_227 : Cond.constant RJ2 227 (Int32.ofInt 65536) ∈ BIG := bg_3 21 (by decide +kernel) rfl
theorem ml_J2_228 : Cond.methodLink RJ2 228 yJ2_indexOfChar_4cfef ∈ BIG := bg_3 22 (by decide +kernel) rfl
theorem ml_J2_96 : Cond.methodLink RJ2 96 yJ2_checkBoundsBeginEnd_d044e ∈ BIG := bg_3 25 (by decide +kernel) rfl
theorem ml_J2_241 : Cond.methodLink RJ2 241 yJ0_checkBoundsBeginEnd_23922 ∈ BIG := bg_3 28 (by decide +kernel) rfl
theorem ml_J0_1062 : Cond.methodLink RJ0 1062 yJ3_checkFromToIndex_8c36e ∈ BIG := bg_3 31 (by decide +kernel) rfl
theorem ml_J2_244 : Cond.methodLink RJ2 244 yJ2_indexOfCharUnsafe_4cfef ∈ BIG := bg_3 34 (by decide +kernel) rfl
theorem ml_J2_232 : Cond.methodLink RJ2 232 yJ2_indexOfSupplementary_4cfef ∈ BIG := bg_3 37 (by decide +kernel) rfl
theorem ml_J2_164 : Cond.methodLink RJ2 164 yJ11_isValidCodePoint_9a6ad ∈ BIG := bg_3 40 (by decide +kernel) rfl
theorem ml_J2_157 : Cond.methodLink RJ2 157 yJ11_highSurrogate_5068e ∈ BIG := bg_3 43 (by decide +kernel) rfl
theorem kc_J11_110 : Cond.constant RJ11 110 (Int32.ofInt 55232) ∈ BIG := bg_3 46 (by decide +kernel) rfl
theorem ml_J2_161 : Cond.methodLink RJ2 161 yJ11_lowSurrogate_5068e ∈ BIG := bg_3 47 (by decide +kernel) rfl
theorem kc_J11_76 : Cond.constant RJ11 76 (Int32.ofInt 56320) ∈ BIG := bg_3 50 (by decide +kernel) rfl
theorem ml_X5_55 : Cond.methodLink RX5 55 yX5_readsAny ∈ BIG := bg_3 51 (by decide +kernel) rfl
theorem ml_X5_77 : Cond.methodLink RX5 77 yX5_readsAll ∈ BIG := bg_3 55 (by decide +kernel) rfl
theorem ml_X5_84 : Cond.methodLink RX5 84 yX5_readsOne ∈ BIG := bg_3 59 (by decide +kernel) rfl
theorem ml_X5_80 : Cond.methodLink RX5 80 yX3_add ∈ BIG := bg_3 63 (by decide +kernel) rfl
theorem ml_X5_87 : Cond.methodLink RX5 87 yX5_readsTest ∈ BIG := bg_3 67 (by decide +kernel) rfl
theorem ml_X5_59 : Cond.methodLink RX5 59 yX3_endClause ∈ BIG := bg_3 73 (by decide +kernel) rfl
theorem ml_L_54 : Cond.methodLink RL 54 yX7_told ∈ BIG := bg_3 77 (by decide +kernel) rfl
theorem ml_X7_151 : Cond.methodLink RX7 151 yX1_greatest ∈ BIG := bg_3 81 (by decide +kernel) rfl
theorem ml_X1_121 : Cond.methodLink RX1 121 yX1_noiseOf ∈ BIG := bg_3 85 (by decide +kernel) rfl
theorem ml_X7_155 : Cond.methodLink RX7 155 yX1_stillHouses ∈ BIG := bg_3 86 (by decide +kernel) rfl
theorem ml_L_58 : Cond.methodLink RL 58 yX7_years ∈ BIG := bg_3 90 (by decide +kernel) rfl
theorem ml_X7_158 : Cond.methodLink RX7 158 yX1_goYears ∈ BIG := bg_3 94 (by decide +kernel) rfl
theorem ml_X1_79 : Cond.methodLink RX1 79 yX1_wears ∈ BIG := bg_3 98 (by decide +kernel) rfl
theorem ml_L_62 : Cond.methodLink RL 62 yX7_on ∈ BIG := bg_3 99 (by decide +kernel) rfl
theorem ml_X7_162 : Cond.methodLink RX7 162 yX1_takeSounds ∈ BIG := bg_3 103 (by decide +kernel) rfl
theorem ml_X1_55 : Cond.methodLink RX1 55 ⟨"java/lang/System", "arraycopy", "(Ljava/lang/Object;ILjava/lang/Object;II)V"⟩ ∈ BIG := bg_3 107 (by decide +kernel) rfl
theorem ml_L_66 : Cond.methodLink RL 66 yX7_when ∈ BIG := bg_3 110 (by decide +kernel) rfl
theorem ml_X7_166 : Cond.methodLink RX7 166 yX7_stillBy ∈ BIG := bg_3 114 (by decide +kernel) rfl
theorem ml_X7_169 : Cond.methodLink RX7 169 yX7_silentBy ∈ BIG := bg_3 118 (by decide +kernel) rfl
theorem ml_L_70 : Cond.methodLink RL 70 yX7_home ∈ BIG := bg_3 122 (by decide +kernel) rfl
theorem ml_X7_172 : Cond.methodLink RX7 172 yX6_take ∈ BIG := bg_3 126 (by decide +kernel) rfl
theorem ml_X6_54 : Cond.methodLink RX6 54 yX1_voiceIn ∈ BIG := bg_3 130 (by decide +kernel) rfl
theorem ml_X6_58 : Cond.methodLink RX6 58 yX1_heard ∈ BIG := bg_3 131 (by decide +kernel) rfl
theorem ml_X6_61 : Cond.methodLink RX6 61 yX1_isLost ∈ BIG := bg_3 132 (by decide +kernel) rfl
theorem ml_X6_66 : Cond.methodLink RX6 66 yX6_put ∈ BIG := bg_3 133 (by decide +kernel) rfl
theorem ml_X6_70 : Cond.methodLink RX6 70 yX6_heardFrom ∈ BIG := bg_3 137 (by decide +kernel) rfl
theorem ml_X7_175 : Cond.methodLink RX7 175 yX6_calmestHouse ∈ BIG := bg_3 141 (by decide +kernel) rfl
theorem kc_X6_79 : Cond.constant RX6 79 (Int32.ofInt 1000000) ∈ BIG := bg_3 145 (by decide +kernel) rfl
theorem ml_X6_80 : Cond.methodLink RX6 80 yX6_greatest ∈ BIG := bg_3 146 (by decide +kernel) rfl
theorem ml_X6_74 : Cond.methodLink RX6 74 yJ9_max_7cf53 ∈ BIG := bg_3 150 (by decide +kernel) rfl
theorem ml_L_74 : Cond.methodLink RL 74 yX7_shared ∈ BIG := bg_3 151 (by decide +kernel) rfl
theorem ml_X7_178 : Cond.methodLink RX7 178 yX6_shareOut ∈ BIG := bg_3 155 (by decide +kernel) rfl
theorem ml_X6_90 : Cond.methodLink RX6 90 yX6_leastHeard ∈ BIG := bg_3 159 (by decide +kernel) rfl
theorem ml_X6_97 : Cond.methodLink RX6 97 yJ9_min_7cf53 ∈ BIG := bg_3 163 (by decide +kernel) rfl
theorem ml_X6_93 : Cond.methodLink RX6 93 yX6_shareFrom ∈ BIG := bg_3 164 (by decide +kernel) rfl
theorem ml_X6_100 : Cond.methodLink RX6 100 yX6_keepWay ∈ BIG := bg_3 168 (by decide +kernel) rfl
theorem ml_X6_103 : Cond.methodLink RX6 103 yX6_isBetter ∈ BIG := bg_3 172 (by decide +kernel) rfl
theorem ml_L_78 : Cond.methodLink RL 78 yX7_best ∈ BIG := bg_3 176 (by decide +kernel) rfl
theorem ml_X7_190 : Cond.methodLink RX7 190 yX6_bestSwap ∈ BIG := bg_3 180 (by decide +kernel) rfl
theorem ml_X6_107 : Cond.methodLink RX6 107 yX6_swap ∈ BIG := bg_3 184 (by decide +kernel) rfl
theorem ml_X7_193 : Cond.methodLink RX7 193 yX6_worstSound ∈ BIG := bg_3 188 (by decide +kernel) rfl
theorem ml_L_82 : Cond.methodLink RL 82 yX7_fewest ∈ BIG := bg_3 192 (by decide +kernel) rfl
theorem ml_X7_196 : Cond.methodLink RX7 196 yX6_fewestSteps ∈ BIG := bg_3 196 (by decide +kernel) rfl
theorem ml_X6_110 : Cond.methodLink RX6 110 yX6_isStillBy ∈ BIG := bg_3 200 (by decide +kernel) rfl
theorem ml_L_86 : Cond.methodLink RL 86 yX7_see ∈ BIG := bg_3 205 (by decide +kernel) rfl
theorem ml_X7_206 : Cond.methodLink RX7 206 yX2_empty ∈ BIG := bg_3 209 (by decide +kernel) rfl
theorem ml_X7_211 : Cond.methodLink RX7 211 yX2_isFull ∈ BIG := bg_3 213 (by decide +kernel) rfl
theorem ml_X7_215 : Cond.methodLink RX7 215 yX2_add ∈ BIG := bg_3 217 (by decide +kernel) rfl
theorem ml_L_90 : Cond.methodLink RL 90 yX7_louds ∈ BIG := bg_3 221 (by decide +kernel) rfl
theorem ml_X7_219 : Cond.methodLink RX7 219 yX7_fitting ∈ BIG := bg_3 225 (by decide +kernel) rfl
theorem ml_X7_223 : Cond.methodLink RX7 223 yX7_isAsSeen ∈ BIG := bg_3 229 (by decide +kernel) rfl
theorem ml_L_94 : Cond.methodLink RL 94 yX7_can ∈ BIG := bg_3 233 (by decide +kernel) rfl
theorem ml_L_98 : Cond.methodLink RL 98 yX7_where ∈ BIG := bg_3 237 (by decide +kernel) rfl
theorem ml_L_102 : Cond.methodLink RL 102 yX7_odds ∈ BIG := bg_4 1 (by decide +kernel) rfl
theorem kl_X7_238 : Cond.constantLong RX7 238 (Int64.ofInt (-9223372036854775808)) ∈ BIG := bg_4 5 (by decide +kernel) rfl
theorem ml_X7_240 : Cond.methodLink RX7 240 yX6_stillWithoutOne ∈ BIG := bg_4 6 (by decide +kernel) rfl
theorem ml_X7_243 : Cond.methodLink RX7 243 yX7_ofFraction ∈ BIG := bg_4 10 (by decide +kernel) rfl
theorem ml_X7_247 : Cond.methodLink RX7 247 yX7_commonDivisor ∈ BIG := bg_4 13 (by decide +kernel) rfl
theorem ml_L_107 : Cond.methodLink RL 107 yX7_mean ∈ BIG := bg_4 16 (by decide +kernel) rfl
theorem ml_L_111 : Cond.methodLink RL 111 yX7_plan ∈ BIG := bg_4 20 (by decide +kernel) rfl
theorem ml_L_115 : Cond.methodLink RL 115 yX7_ends ∈ BIG := bg_4 24 (by decide +kernel) rfl
theorem ml_X7_253 : Cond.methodLink RX7 253 yX1_go ∈ BIG := bg_4 28 (by decide +kernel) rfl
theorem ml_X1_89 : Cond.methodLink RX1 89 yX1_goYears ∈ BIG := bg_4 32 (by decide +kernel) rfl
theorem ml_X1_92 : Cond.methodLink RX1 92 yX1_has ∈ BIG := bg_4 33 (by decide +kernel) rfl
theorem ml_X7_257 : Cond.methodLink RX7 257 yJ6_bitCount_0f7a4 ∈ BIG := bg_4 34 (by decide +kernel) rfl
theorem kc_J6_265 : Cond.constant RJ6 265 (Int32.ofInt 1431655765) ∈ BIG := bg_4 37 (by decide +kernel) rfl
theorem kc_J6_266 : Cond.constant RJ6 266 (Int32.ofInt 858993459) ∈ BIG := bg_4 38 (by decide +kernel) rfl
theorem kc_J6_267 : Cond.constant RJ6 267 (Int32.ofInt 252645135) ∈ BIG := bg_4 39 (by decide +kernel) rfl
theorem ml_L_119 : Cond.methodLink RL 119 yX7_book ∈ BIG := bg_4 40 (by decide +kernel) rfl
theorem ml_L_123 : Cond.methodLink RL 123 yX7_looked ∈ BIG := bg_4 44 (by decide +kernel) rfl
theorem ml_L_127 : Cond.methodLink RL 127 yX7_judge ∈ BIG := bg_4 48 (by decide +kernel) rfl
theorem ml_X7_265 : Cond.methodLink RX7 265 yX7_isTape ∈ BIG := bg_4 52 (by decide +kernel) rfl
theorem ml_L_131 : Cond.methodLink RL 131 yX7_image ∈ BIG := bg_4 55 (by decide +kernel) rfl
theorem ml_X7_278 : Cond.methodLink RX7 278 yX1_takeAll ∈ BIG := bg_4 59 (by decide +kernel) rfl
theorem ml_X1_64 : Cond.methodLink RX1 64 yX1_takeSounds ∈ BIG := bg_4 63 (by decide +kernel) rfl
theorem ml_X1_68 : Cond.methodLink RX1 68 yX2_takeAll ∈ BIG := bg_4 64 (by decide +kernel) rfl
theorem ml_X2_23 : Cond.methodLink RX2 23 ⟨"java/lang/System", "arraycopy", "(Ljava/lang/Object;ILjava/lang/Object;II)V"⟩ ∈ BIG := bg_4 68 (by decide +kernel) rfl
theorem ml_L_135 : Cond.methodLink RL 135 yX7_undo ∈ BIG := bg_4 69 (by decide +kernel) rfl
theorem ml_L_139 : Cond.methodLink RL 139 yX7_act ∈ BIG := bg_4 73 (by decide +kernel) rfl
theorem ml_X7_288 : Cond.methodLink RX7 288 yX0_perform ∈ BIG := bg_4 77 (by decide +kernel) rfl
theorem ml_X0_25 : Cond.methodLink RX0 25 yX0_creaks ∈ BIG := bg_4 81 (by decide +kernel) rfl
theorem ml_X0_38 : Cond.methodLink RX0 38 yX0_begin ∈ BIG := bg_4 85 (by decide +kernel) rfl
theorem ml_X0_29 : Cond.methodLink RX0 29 yX0_rings ∈ BIG := bg_4 89 (by decide +kernel) rfl
theorem ml_X0_32 : Cond.methodLink RX0 32 yX0_tells ∈ BIG := bg_4 93 (by decide +kernel) rfl
theorem ml_L_143 : Cond.methodLink RL 143 yX7_trace ∈ BIG := bg_4 97 (by decide +kernel) rfl
theorem ml_L_147 : Cond.methodLink RL 147 yX7_taken ∈ BIG := bg_4 101 (by decide +kernel) rfl
theorem fl_X7_295 : Cond.fieldLink RX7 295 "SqueakShop" "ABOVE" "[I" ∈ BIG := bg_4 105 (by decide +kernel) rfl
theorem ml_L_151 : Cond.methodLink RL 151 yX7_count ∈ BIG := bg_4 107 (by decide +kernel) rfl
theorem ml_L_155 : Cond.methodLink RL 155 yX7_tape ∈ BIG := bg_4 111 (by decide +kernel) rfl
theorem ml_X7_298 : Cond.methodLink RX7 298 yX4_become ∈ BIG := bg_4 115 (by decide +kernel) rfl
theorem ml_L_161 : Cond.methodLink RL 161 yX7_item ∈ BIG := bg_4 119 (by decide +kernel) rfl
theorem ml_X7_301 : Cond.methodLink RX7 301 yX4_hasPlace ∈ BIG := bg_4 123 (by decide +kernel) rfl
theorem ml_X7_304 : Cond.methodLink RX7 304 yX4_put ∈ BIG := bg_4 127 (by decide +kernel) rfl
theorem ml_L_166 : Cond.methodLink RL 166 yX7_read ∈ BIG := bg_4 131 (by decide +kernel) rfl
theorem ml_L_170 : Cond.methodLink RL 170 yX7_shift ∈ BIG := bg_4 135 (by decide +kernel) rfl
theorem ml_X7_308 : Cond.methodLink RX7 308 yX4_hasPlaces ∈ BIG := bg_4 139 (by decide +kernel) rfl
theorem ml_X7_311 : Cond.methodLink RX7 311 ⟨"java/lang/System", "arraycopy", "(Ljava/lang/Object;ILjava/lang/Object;II)V"⟩ ∈ BIG := bg_4 143 (by decide +kernel) rfl
theorem cl_L_10 : Cond.classLink RL 10 RX8 ∈ BIG := bg_4 144 (by decide +kernel) rfl
theorem ml_L_12 : Cond.methodLink RL 12 yX8_init ∈ BIG := bg_4 146 (by decide +kernel) rfl
theorem ml_X8_1 : Cond.methodLink RX8 1 Lib.objectInit ∈ BIG := bg_4 149 (by decide +kernel) rfl
theorem fl_X8_7 : Cond.fieldLink RX8 7 "SqueakShopModel" "sounds" "I" ∈ BIG := bg_4 150 (by decide +kernel) rfl
theorem fl_X8_13 : Cond.fieldLink RX8 13 "SqueakShopModel" "year" "I" ∈ BIG := bg_4 151 (by decide +kernel) rfl
theorem fl_X8_16 : Cond.fieldLink RX8 16 "SqueakShopModel" "kind" "[I" ∈ BIG := bg_4 152 (by decide +kernel) rfl
theorem fl_X8_20 : Cond.fieldLink RX8 20 "SqueakShopModel" "v" "[I" ∈ BIG := bg_4 153 (by decide +kernel) rfl
theorem fl_X8_23 : Cond.fieldLink RX8 23 "SqueakShopModel" "loud" "[I" ∈ BIG := bg_4 154 (by decide +kernel) rfl
theorem fl_X8_26 : Cond.fieldLink RX8 26 "SqueakShopModel" "house" "[I" ∈ BIG := bg_4 155 (by decide +kernel) rfl
theorem fl_X8_29 : Cond.fieldLink RX8 29 "SqueakShopModel" "rows" "[I" ∈ BIG := bg_4 156 (by decide +kernel) rfl
theorem fl_X8_32 : Cond.fieldLink RX8 32 "SqueakShopModel" "streets" "I" ∈ BIG := bg_4 157 (by decide +kernel) rfl
theorem fl_X8_35 : Cond.fieldLink RX8 35 "SqueakShopModel" "the" "I" ∈ BIG := bg_4 158 (by decide +kernel) rfl
theorem fl_X8_38 : Cond.fieldLink RX8 38 "SqueakShopModel" "fed" "I" ∈ BIG := bg_4 159 (by decide +kernel) rfl
theorem fl_X8_41 : Cond.fieldLink RX8 41 "SqueakShopModel" "at" "I" ∈ BIG := bg_4 160 (by decide +kernel) rfl
theorem fl_X8_44 : Cond.fieldLink RX8 44 "SqueakShopModel" "digits" "I" ∈ BIG := bg_4 161 (by decide +kernel) rfl
theorem fl_X8_47 : Cond.fieldLink RX8 47 "SqueakShopModel" "text" "[I" ∈ BIG := bg_4 162 (by decide +kernel) rfl
theorem fl_X8_50 : Cond.fieldLink RX8 50 "SqueakShopModel" "clauses" "[I" ∈ BIG := bg_4 163 (by decide +kernel) rfl
theorem fl_X8_53 : Cond.fieldLink RX8 53 "SqueakShopModel" "word" "[I" ∈ BIG := bg_4 164 (by decide +kernel) rfl
theorem fl_X8_56 : Cond.fieldLink RX8 56 "SqueakShopModel" "number" "[I" ∈ BIG := bg_4 165 (by decide +kernel) rfl
theorem fl_X8_59 : Cond.fieldLink RX8 59 "SqueakShopModel" "from" "[I" ∈ BIG := bg_4 166 (by decide +kernel) rfl
theorem fl_X8_62 : Cond.fieldLink RX8 62 "SqueakShopModel" "to" "[I" ∈ BIG := bg_4 167 (by decide +kernel) rfl
theorem fl_X8_65 : Cond.fieldLink RX8 65 "SqueakShopModel" "sign" "[I" ∈ BIG := bg_4 168 (by decide +kernel) rfl
theorem fl_X8_68 : Cond.fieldLink RX8 68 "SqueakShopModel" "waits" "[I" ∈ BIG := bg_4 169 (by decide +kernel) rfl
theorem fl_X8_71 : Cond.fieldLink RX8 71 "SqueakShopModel" "signs" "I" ∈ BIG := bg_4 170 (by decide +kernel) rfl
theorem fl_X8_74 : Cond.fieldLink RX8 74 "SqueakShopModel" "waiting" "I" ∈ BIG := bg_4 171 (by decide +kernel) rfl
theorem fl_X8_77 : Cond.fieldLink RX8 77 "SqueakShopModel" "open" "I" ∈ BIG := bg_4 172 (by decide +kernel) rfl
theorem fl_X8_80 : Cond.fieldLink RX8 80 "SqueakShopModel" "letters" "[I" ∈ BIG := bg_4 173 (by decide +kernel) rfl
theorem fl_X8_83 : Cond.fieldLink RX8 83 "SqueakShopModel" "pile" "[Z" ∈ BIG := bg_4 174 (by decide +kernel) rfl
theorem fl_X8_87 : Cond.fieldLink RX8 87 "SqueakShopModel" "noises" "[I" ∈ BIG := bg_4 175 (by decide +kernel) rfl
theorem fl_X8_90 : Cond.fieldLink RX8 90 "SqueakShopModel" "keptYear" "I" ∈ BIG := bg_4 176 (by decide +kernel) rfl
theorem fl_X8_93 : Cond.fieldLink RX8 93 "SqueakShopModel" "keptLoud" "[I" ∈ BIG := bg_4 177 (by decide +kernel) rfl
theorem fl_X8_96 : Cond.fieldLink RX8 96 "SqueakShopModel" "keptHouse" "[I" ∈ BIG := bg_4 178 (by decide +kernel) rfl
theorem fl_X8_99 : Cond.fieldLink RX8 99 "SqueakShopModel" "laid" "[I" ∈ BIG := bg_4 179 (by decide +kernel) rfl
theorem fl_X8_102 : Cond.fieldLink RX8 102 "SqueakShopModel" "bestHouse" "[I" ∈ BIG := bg_4 180 (by decide +kernel) rfl
theorem fl_X8_105 : Cond.fieldLink RX8 105 "SqueakShopModel" "bestGreatest" "I" ∈ BIG := bg_4 181 (by decide +kernel) rfl
theorem fl_X8_108 : Cond.fieldLink RX8 108 "SqueakShopModel" "bestSum" "I" ∈ BIG := bg_4 182 (by decide +kernel) rfl
theorem fl_X8_111 : Cond.fieldLink RX8 111 "SqueakShopModel" "seen" "I" ∈ BIG := bg_4 183 (by decide +kernel) rfl
theorem fl_X8_114 : Cond.fieldLink RX8 114 "SqueakShopModel" "seenHouse" "[I" ∈ BIG := bg_4 184 (by decide +kernel) rfl
theorem fl_X8_117 : Cond.fieldLink RX8 117 "SqueakShopModel" "seenNoise" "[I" ∈ BIG := bg_4 185 (by decide +kernel) rfl
theorem fl_X8_120 : Cond.fieldLink RX8 120 "SqueakShopModel" "seenWhen" "[I" ∈ BIG := bg_4 186 (by decide +kernel) rfl
theorem fl_X8_123 : Cond.fieldLink RX8 123 "SqueakShopModel" "plans" "I" ∈ BIG := bg_4 187 (by decide +kernel) rfl
theorem fl_X8_126 : Cond.fieldLink RX8 126 "SqueakShopModel" "books" "I" ∈ BIG := bg_4 188 (by decide +kernel) rfl
theorem fl_X8_129 : Cond.fieldLink RX8 129 "SqueakShopModel" "planWhat" "[I" ∈ BIG := bg_4 189 (by decide +kernel) rfl
theorem fl_X8_132 : Cond.fieldLink RX8 132 "SqueakShopModel" "planSound" "[I" ∈ BIG := bg_4 190 (by decide +kernel) rfl
theorem fl_X8_135 : Cond.fieldLink RX8 135 "SqueakShopModel" "bookSound" "[I" ∈ BIG := bg_4 191 (by decide +kernel) rfl
theorem fl_X8_138 : Cond.fieldLink RX8 138 "SqueakShopModel" "bookHouse" "[I" ∈ BIG := bg_4 192 (by decide +kernel) rfl
theorem fl_X8_141 : Cond.fieldLink RX8 141 "SqueakShopModel" "hasImage" "Z" ∈ BIG := bg_4 193 (by decide +kernel) rfl
theorem fl_X8_145 : Cond.fieldLink RX8 145 "SqueakShopModel" "imageThe" "I" ∈ BIG := bg_4 194 (by decide +kernel) rfl
theorem fl_X8_148 : Cond.fieldLink RX8 148 "SqueakShopModel" "imageSounds" "I" ∈ BIG := bg_4 195 (by decide +kernel) rfl
theorem fl_X8_151 : Cond.fieldLink RX8 151 "SqueakShopModel" "imageYear" "I" ∈ BIG := bg_4 196 (by decide +kernel) rfl
theorem fl_X8_154 : Cond.fieldLink RX8 154 "SqueakShopModel" "imageSeen" "I" ∈ BIG := bg_4 197 (by decide +kernel) rfl
theorem fl_X8_157 : Cond.fieldLink RX8 157 "SqueakShopModel" "imagePlans" "I" ∈ BIG := bg_4 198 (by decide +kernel) rfl
theorem fl_X8_160 : Cond.fieldLink RX8 160 "SqueakShopModel" "imageBooks" "I" ∈ BIG := bg_4 199 (by decide +kernel) rfl
theorem fl_X8_163 : Cond.fieldLink RX8 163 "SqueakShopModel" "imageKind" "[I" ∈ BIG := bg_4 200 (by decide +kernel) rfl
theorem fl_X8_166 : Cond.fieldLink RX8 166 "SqueakShopModel" "imageV" "[I" ∈ BIG := bg_4 201 (by decide +kernel) rfl
theorem fl_X8_169 : Cond.fieldLink RX8 169 "SqueakShopModel" "imageLoud" "[I" ∈ BIG := bg_4 202 (by decide +kernel) rfl
theorem fl_X8_172 : Cond.fieldLink RX8 172 "SqueakShopModel" "imageHouse" "[I" ∈ BIG := bg_4 203 (by decide +kernel) rfl
theorem fl_X8_175 : Cond.fieldLink RX8 175 "SqueakShopModel" "imageRows" "[I" ∈ BIG := bg_4 204 (by decide +kernel) rfl
theorem fl_X8_178 : Cond.fieldLink RX8 178 "SqueakShopModel" "imageSeenHouse" "[I" ∈ BIG := bg_4 205 (by decide +kernel) rfl
theorem fl_X8_181 : Cond.fieldLink RX8 181 "SqueakShopModel" "imageNoise" "[I" ∈ BIG := bg_4 206 (by decide +kernel) rfl
theorem fl_X8_184 : Cond.fieldLink RX8 184 "SqueakShopModel" "imageWhen" "[I" ∈ BIG := bg_4 207 (by decide +kernel) rfl
theorem fl_X8_187 : Cond.fieldLink RX8 187 "SqueakShopModel" "imageWhat" "[I" ∈ BIG := bg_4 208 (by decide +kernel) rfl
theorem fl_X8_190 : Cond.fieldLink RX8 190 "SqueakShopModel" "imageSound" "[I" ∈ BIG := bg_4 209 (by decide +kernel) rfl
theorem fl_X8_193 : Cond.fieldLink RX8 193 "SqueakShopModel" "imageBookSound" "[I" ∈ BIG := bg_4 210 (by decide +kernel) rfl
theorem fl_X8_196 : Cond.fieldLink RX8 196 "SqueakShopModel" "imageBookHouse" "[I" ∈ BIG := bg_4 211 (by decide +kernel) rfl
theorem fl_X8_199 : Cond.fieldLink RX8 199 "SqueakShopModel" "ran" "I" ∈ BIG := bg_4 212 (by decide +kernel) rfl
theorem fl_X8_202 : Cond.fieldLink RX8 202 "SqueakShopModel" "bodies" "[I" ∈ BIG := bg_4 213 (by decide +kernel) rfl
theorem fl_X8_205 : Cond.fieldLink RX8 205 "SqueakShopModel" "sort" "[I" ∈ BIG := bg_4 214 (by decide +kernel) rfl
theorem fl_X8_208 : Cond.fieldLink RX8 208 "SqueakShopModel" "length" "[I" ∈ BIG := bg_4 215 (by decide +kernel) rfl
theorem fl_X8_211 : Cond.fieldLink RX8 211 "SqueakShopModel" "item" "[J" ∈ BIG := bg_4 216 (by decide +kernel) rfl
theorem fl_X8_215 : Cond.fieldLink RX8 215 "SqueakShopModel" "aside" "[J" ∈ BIG := bg_4 217 (by decide +kernel) rfl
theorem ml_L_17 : Cond.methodLink RL 17 yX8_sound ∈ BIG := bg_5 115 (by decide +kernel) rfl
theorem ml_X8_218 : Cond.methodLink RX8 218 yX8_in ∈ BIG := bg_5 119 (by decide +kernel) rfl
theorem ml_X8_222 : Cond.methodLink RX8 222 yX8_isHouse ∈ BIG := bg_5 123 (by decide +kernel) rfl
theorem ml_X8_226 : Cond.methodLink RX8 226 yX8_isLoud ∈ BIG := bg_5 127 (by decide +kernel) rfl
theorem ml_L_26 : Cond.methodLink RL 26 yX8_set ∈ BIG := bg_5 131 (by decide +kernel) rfl
theorem ml_X8_229 : Cond.methodLink RX8 229 yX8_isSound ∈ BIG := bg_5 135 (by decide +kernel) rfl
theorem ml_L_44 : Cond.methodLink RL 44 yX8_row ∈ BIG := bg_5 139 (by decide +kernel) rfl
theorem ml_L_30 : Cond.methodLink RL 30 yX8_pass ∈ BIG := bg_5 143 (by decide +kernel) rfl
theorem ml_X8_232 : Cond.methodLink RX8 232 yX8_isLost ∈ BIG := bg_5 147 (by decide +kernel) rfl
theorem ml_X8_235 : Cond.methodLink RX8 235 yX8_farOf ∈ BIG := bg_5 151 (by decide +kernel) rfl
theorem ml_X8_239 : Cond.methodLink RX8 239 yX8_noise ∈ BIG := bg_5 155 (by decide +kernel) rfl
theorem ml_X8_320 : Cond.methodLink RX8 320 yX8_layNoises ∈ BIG := bg_5 159 (by decide +kernel) rfl
theorem ml_X8_314 : Cond.methodLink RX8 314 yX8_voice ∈ BIG := bg_5 163 (by decide +kernel) rfl
theorem ml_X8_292 : Cond.methodLink RX8 292 yX8_begin ∈ BIG := bg_5 167 (by decide +kernel) rfl
theorem ml_X8_295 : Cond.methodLink RX8 295 yX8_behind ∈ BIG := bg_5 171 (by decide +kernel) rfl
theorem ml_X8_305 : Cond.methodLink RX8 305 yX8_holds ∈ BIG := bg_5 175 (by decide +kernel) rfl
theorem ml_X8_301 : Cond.methodLink RX8 301 yX8_factOf ∈ BIG := bg_5 179 (by decide +kernel) rfl
theorem ml_X8_308 : Cond.methodLink RX8 308 yX8_least0 ∈ BIG := bg_5 183 (by decide +kernel) rfl
theorem ml_X8_317 : Cond.methodLink RX8 317 yX8_heardBy ∈ BIG := bg_5 187 (by decide +kernel) rfl
theorem ml_X8_311 : Cond.methodLink RX8 311 yX8_wall ∈ BIG := bg_5 191 (by decide +kernel) rfl
theorem ml_X8_298 : Cond.methodLink RX8 298 yX8_lastOf ∈ BIG := bg_5 195 (by decide +kernel) rfl
theorem ml_L_35 : Cond.methodLink RL 35 yX8_lose ∈ BIG := bg_5 199 (by decide +kernel) rfl
theorem ml_L_39 : Cond.methodLink RL 39 yX8_find ∈ BIG := bg_5 203 (by decide +kernel) rfl
theorem ml_L_48 : Cond.methodLink RL 48 yX8_feed ∈ BIG := bg_5 207 (by decide +kernel) rfl
theorem ml_L_53 : Cond.methodLink RL 53 yX8_street ∈ BIG := bg_5 211 (by decide +kernel) rfl
theorem ml_X8_289 : Cond.methodLink RX8 289 yX8_goesText ∈ BIG := bg_5 215 (by decide +kernel) rfl
theorem ml_X8_286 : Cond.methodLink RX8 286 yX8_takesClause ∈ BIG := bg_5 219 (by decide +kernel) rfl
theorem ml_X8_280 : Cond.methodLink RX8 280 yX8_takesHead ∈ BIG := bg_5 223 (by decide +kernel) rfl
theorem ml_X8_243 : Cond.methodLink RX8 243 yX8_next ∈ BIG := bg_5 227 (by decide +kernel) rfl
theorem ml_X8_273 : Cond.methodLink RX8 273 yX8_takesWord ∈ BIG := bg_5 231 (by decide +kernel) rfl
theorem ml_X8_247 : Cond.methodLink RX8 247 yX8_takes ∈ BIG := bg_5 235 (by decide +kernel) rfl
theorem ml_X8_277 : Cond.methodLink RX8 277 yX8_second ∈ BIG := bg_5 239 (by decide +kernel) rfl
theorem ml_X8_261 : Cond.methodLink RX8 261 yX8_takesNumber ∈ BIG := bg_6 3 (by decide +kernel) rfl
theorem ml_X8_250 : Cond.methodLink RX8 250 yX8_isDigit ∈ BIG := bg_6 7 (by decide +kernel) rfl
theorem ml_X8_283 : Cond.methodLink RX8 283 yX8_takesE ∈ BIG := bg_6 11 (by decide +kernel) rfl
theorem ml_X8_267 : Cond.methodLink RX8 267 yX8_takesTest ∈ BIG := bg_6 15 (by decide +kernel) rfl
theorem ml_X8_258 : Cond.methodLink RX8 258 yX8_place ∈ BIG := bg_6 19 (by decide +kernel) rfl
theorem ml_X8_254 : Cond.methodLink RX8 254 yX8_emits ∈ BIG := bg_6 23 (by decide +kernel) rfl
theorem ml_X8_264 : Cond.methodLink RX8 264 yX8_whole ∈ BIG := bg_6 27 (by decide +kernel) rfl
theorem ml_X8_270 : Cond.methodLink RX8 270 yX8_settle ∈ BIG := bg_6 31 (by decide +kernel) rfl
theorem ml_L_22 : Cond.methodLink RL 22 yX8_of ∈ BIG := bg_6 35 (by decide +kernel) rfl
theorem ml_X8_332 : Cond.methodLink RX8 332 yX8_heard ∈ BIG := bg_6 39 (by decide +kernel) rfl
theorem ml_X8_335 : Cond.methodLink RX8 335 yX8_wears ∈ BIG := bg_6 43 (by decide +kernel) rfl
theorem ml_X8_329 : Cond.methodLink RX8 329 yX8_wear ∈ BIG := bg_6 47 (by decide +kernel) rfl
theorem ml_L_57 : Cond.methodLink RL 57 yX8_told ∈ BIG := bg_6 51 (by decide +kernel) rfl
theorem ml_X8_326 : Cond.methodLink RX8 326 yX8_calm ∈ BIG := bg_6 55 (by decide +kernel) rfl
theorem ml_X8_338 : Cond.methodLink RX8 338 yX8_greatest ∈ BIG := bg_6 59 (by decide +kernel) rfl
theorem ml_X8_323 : Cond.methodLink RX8 323 yX8_greatestLaid ∈ BIG := bg_6 63 (by decide +kernel) rfl
theorem ml_X8_341 : Cond.methodLink RX8 341 yX8_stillSet ∈ BIG := bg_6 67 (by decide +kernel) rfl
theorem ml_L_61 : Cond.methodLink RL 61 yX8_years ∈ BIG := bg_6 71 (by decide +kernel) rfl
theorem ml_X8_347 : Cond.methodLink RX8 347 yX8_isYears ∈ BIG := bg_6 75 (by decide +kernel) rfl
theorem ml_X8_350 : Cond.methodLink RX8 350 yX8_goYears ∈ BIG := bg_6 79 (by decide +kernel) rfl
theorem ml_X8_344 : Cond.methodLink RX8 344 yX8_goYear ∈ BIG := bg_6 83 (by decide +kernel) rfl
theorem ml_L_65 : Cond.methodLink RL 65 yX8_on ∈ BIG := bg_6 87 (by decide +kernel) rfl
theorem ml_X8_353 : Cond.methodLink RX8 353 yX8_save ∈ BIG := bg_6 91 (by decide +kernel) rfl
theorem ml_X8_356 : Cond.methodLink RX8 356 yX8_putBack ∈ BIG := bg_6 95 (by decide +kernel) rfl
theorem ml_L_69 : Cond.methodLink RL 69 yX8_when ∈ BIG := bg_6 99 (by decide +kernel) rfl
theorem ml_L_73 : Cond.methodLink RL 73 yX8_home ∈ BIG := bg_6 103 (by decide +kernel) rfl
theorem kc_X8_359 : Cond.constant RX8 359 (Int32.ofInt 2000000000) ∈ BIG := bg_6 107 (by decide +kernel) rfl
theorem ml_L_77 : Cond.methodLink RL 77 yX8_shared ∈ BIG := bg_6 108 (by decide +kernel) rfl
theorem ml_X8_369 : Cond.methodLink RX8 369 yX8_layShared ∈ BIG := bg_6 112 (by decide +kernel) rfl
theorem ml_X8_360 : Cond.methodLink RX8 360 yX8_layAll ∈ BIG := bg_6 116 (by decide +kernel) rfl
theorem ml_X8_363 : Cond.methodLink RX8 363 yX8_layPlaces ∈ BIG := bg_6 120 (by decide +kernel) rfl
theorem ml_X8_366 : Cond.methodLink RX8 366 yX8_sumLaid ∈ BIG := bg_6 124 (by decide +kernel) rfl
theorem ml_L_81 : Cond.methodLink RL 81 yX8_best ∈ BIG := bg_6 128 (by decide +kernel) rfl
theorem ml_X8_379 : Cond.methodLink RX8 379 yX8_changeOf ∈ BIG := bg_6 132 (by decide +kernel) rfl
theorem ml_X8_372 : Cond.methodLink RX8 372 yX8_swaps ∈ BIG := bg_6 136 (by decide +kernel) rfl
theorem ml_X8_382 : Cond.methodLink RX8 382 yX8_worstOf ∈ BIG := bg_6 140 (by decide +kernel) rfl
theorem ml_X8_376 : Cond.methodLink RX8 376 yX8_greatestWithout ∈ BIG := bg_6 144 (by decide +kernel) rfl
theorem ml_L_85 : Cond.methodLink RL 85 yX8_fewest ∈ BIG := bg_6 148 (by decide +kernel) rfl
theorem ml_X8_388 : Cond.methodLink RX8 388 yX8_isStillBy ∈ BIG := bg_6 152 (by decide +kernel) rfl
theorem ml_X8_385 : Cond.methodLink RX8 385 yX8_stepOf ∈ BIG := bg_6 156 (by decide +kernel) rfl
theorem ml_L_89 : Cond.methodLink RL 89 yX8_see ∈ BIG := bg_6 160 (by decide +kernel) rfl
theorem ml_L_93 : Cond.methodLink RL 93 yX8_louds ∈ BIG := bg_6 164 (by decide +kernel) rfl
theorem ml_X8_391 : Cond.methodLink RX8 391 yX8_isSeen ∈ BIG := bg_6 168 (by decide +kernel) rfl
theorem ml_L_97 : Cond.methodLink RL 97 yX8_can ∈ BIG := bg_6 172 (by decide +kernel) rfl
theorem ml_L_101 : Cond.methodLink RL 101 yX8_where ∈ BIG := bg_6 176 (by decide +kernel) rfl
theorem ml_L_106 : Cond.methodLink RL 106 yX8_odds ∈ BIG := bg_6 180 (by decide +kernel) rfl
theorem kl_X8_397 : Cond.constantLong RX8 397 (Int64.ofInt (-9223372036854775808)) ∈ BIG := bg_6 184 (by decide +kernel) rfl
theorem ml_X8_399 : Cond.methodLink RX8 399 yX8_lowest ∈ BIG := bg_6 185 (by decide +kernel) rfl
theorem ml_X8_394 : Cond.methodLink RX8 394 yX8_divisor ∈ BIG := bg_6 189 (by decide +kernel) rfl
theorem ml_L_110 : Cond.methodLink RL 110 yX8_mean ∈ BIG := bg_6 193 (by decide +kernel) rfl
theorem ml_L_114 : Cond.methodLink RL 114 yX8_plan ∈ BIG := bg_6 197 (by decide +kernel) rfl
theorem ml_L_118 : Cond.methodLink RL 118 yX8_ends ∈ BIG := bg_6 201 (by decide +kernel) rfl
theorem ml_X8_403 : Cond.methodLink RX8 403 yX8_goPlan ∈ BIG := bg_6 205 (by decide +kernel) rfl
theorem ml_L_122 : Cond.methodLink RL 122 yX8_book ∈ BIG := bg_6 209 (by decide +kernel) rfl
theorem ml_L_126 : Cond.methodLink RL 126 yX8_looked ∈ BIG := bg_6 213 (by decide +kernel) rfl
theorem ml_L_130 : Cond.methodLink RL 130 yX8_judge ∈ BIG := bg_6 217 (by decide +kernel) rfl
theorem ml_X8_406 : Cond.methodLink RX8 406 yX8_isTape ∈ BIG := bg_6 221 (by decide +kernel) rfl
theorem ml_L_134 : Cond.methodLink RL 134 yX8_image ∈ BIG := bg_6 225 (by decide +kernel) rfl
theorem ml_L_138 : Cond.methodLink RL 138 yX8_undo ∈ BIG := bg_6 229 (by decide +kernel) rfl
theorem ml_L_142 : Cond.methodLink RL 142 yX8_act ∈ BIG := bg_6 233 (by decide +kernel) rfl
theorem ml_X8_415 : Cond.methodLink RX8 415 yX8_creaksAct ∈ BIG := bg_6 237 (by decide +kernel) rfl
theorem ml_X8_409 : Cond.methodLink RX8 409 yX8_body ∈ BIG := bg_7 1 (by decide +kernel) rfl
theorem ml_X8_412 : Cond.methodLink RX8 412 yX8_soundCreaks ∈ BIG := bg_7 5 (by decide +kernel) rfl
theorem ml_X8_424 : Cond.methodLink RX8 424 yX8_ringsAct ∈ BIG := bg_7 9 (by decide +kernel) rfl
theorem ml_X8_421 : Cond.methodLink RX8 421 yX8_squeakRings ∈ BIG := bg_7 13 (by decide +kernel) rfl
theorem ml_X8_418 : Cond.methodLink RX8 418 yX8_soundRings ∈ BIG := bg_7 17 (by decide +kernel) rfl
theorem ml_X8_430 : Cond.methodLink RX8 430 yX8_tellsAct ∈ BIG := bg_7 21 (by decide +kernel) rfl
theorem ml_X8_427 : Cond.methodLink RX8 427 yX8_soundTells ∈ BIG := bg_7 25 (by decide +kernel) rfl
theorem ml_L_146 : Cond.methodLink RL 146 yX8_trace ∈ BIG := bg_7 29 (by decide +kernel) rfl
theorem ml_L_150 : Cond.methodLink RL 150 yX8_taken ∈ BIG := bg_7 33 (by decide +kernel) rfl
theorem ml_L_154 : Cond.methodLink RL 154 yX8_count ∈ BIG := bg_7 37 (by decide +kernel) rfl
theorem ml_L_158 : Cond.methodLink RL 158 yX8_tape ∈ BIG := bg_7 41 (by decide +kernel) rfl
theorem ml_L_165 : Cond.methodLink RL 165 yX8_item ∈ BIG := bg_7 45 (by decide +kernel) rfl
theorem ml_X8_433 : Cond.methodLink RX8 433 yX8_narrow ∈ BIG := bg_7 49 (by decide +kernel) rfl
theorem ml_L_169 : Cond.methodLink RL 169 yX8_read ∈ BIG := bg_7 53 (by decide +kernel) rfl
theorem ml_L_174 : Cond.methodLink RL 174 yX8_shift ∈ BIG := bg_7 57 (by decide +kernel) rfl
theorem kl_L_159 : Cond.constantLong RL 159 (Int64.ofInt 4294967295) ∈ BIG := bg_7 61 (by decide +kernel) rfl
theorem fl_J0_15 : Cond.fieldLink RJ0 15 "java/lang/String" "coder" "B" ∈ BIG := bg_7 62 (by decide +kernel) rfl
theorem fl_J0_9 : Cond.fieldLink RJ0 9 "java/lang/String" "value" "[B" ∈ BIG := bg_7 63 (by decide +kernel) rfl
set_option maxRecDepth 20000 in
theorem mi_X0_init : MI yX0_init cX0_init 1 none 0 := ⟨bg_1 103 rfl rfl, bg_1 4 (by decide +kernel) rfl, ⟨by decide +kernel, by decide +kernel⟩, by decide +kernel, Nat.le_of_ble_eq_true rfl⟩
theorem mv_X0_init : Cond.instanceMethod yX0_init ∈ BIG := bg_1 102 (by decide +kernel) rfl
set_option maxRecDepth 20000 in
theorem mi_X0_perform : MI yX0_perform cX0_perform 6 (some .int) 5 := ⟨bg_4 80 rfl rfl, bg_1 4 (by decide +kernel) rfl, ⟨by decide +kernel, by decide +kernel⟩, by decide +kernel, Nat.le_of_ble_eq_true rfl⟩
theorem mv_X0_perform : Cond.instanceMethod yX0_perform ∈ BIG ∧ Cond.selects (yX0_perform).cls yX0_perform yX0_perform ∈ BIG := ⟨bg_4 78 (by decide +kernel) rfl, bg_4 79 (by decide +kernel) rfl⟩
set_option maxRecDepth 20000 in
theorem mi_X0_begin : MI yX0_begin cX0_begin 2 none 1 := ⟨bg_4 88 rfl rfl, bg_1 4 (by decide +kernel) rfl, ⟨by decide +kernel, by decide +kernel⟩, by decide +kernel, Nat.le_of_ble_eq_true rfl⟩
theorem mv_X0_begin : Cond.instanceMethod yX0_begin ∈ BIG ∧ Cond.selects (yX0_begin).cls yX0_begin yX0_begin ∈ BIG := ⟨bg_4 87 (by decide +kernel) rfl, big_of 23 (by decide +kernel) rfl⟩
set_option maxRecDepth 20000 in
theorem mi_X0_creaks : MI yX0_creaks cX0_creaks 3 (some .int) 2 := ⟨bg_4 84 rfl rfl, bg_1 4 (by decide +kernel) rfl, ⟨by decide +kernel, by decide +kernel⟩, by decide +kernel, Nat.le_of_ble_eq_true rfl⟩
theorem mv_X0_creaks : Cond.instanceMethod yX0_creaks ∈ BIG ∧ Cond.selects (yX0_creaks).cls yX0_creaks yX0_creaks ∈ BIG := ⟨bg_4 83 (by decide +kernel) rfl, big_of 22 (by decide +kernel) rfl⟩
set_option maxRecDepth 20000 in
theorem mi_X0_rings : MI yX0_rings cX0_rings 4 (some .int) 2 := ⟨bg_4 92 rfl rfl, bg_1 4 (by decide +kernel) rfl, ⟨by decide +kernel, by decide +kernel⟩, by decide +kernel, Nat.le_of_ble_eq_true rfl⟩
theorem mv_X0_rings : Cond.instanceMethod yX0_rings ∈ BIG ∧ Cond.selects (yX0_rings).cls yX0_rings yX0_rings ∈ BIG := ⟨bg_4 91 (by decide +kernel) rfl, big_of 24 (by decide +kernel) rfl⟩
set_option maxRecDepth 20000 in
theorem mi_X0_tells : MI yX0_tells cX0_tells 4 (some .int) 2 := ⟨bg_4 96 rfl rfl, bg_1 4 (by decide +kernel) rfl, ⟨by decide +kernel, by decide +kernel⟩, by decide +kernel, Nat.le_of_ble_eq_true rfl⟩
theorem mv_X0_tells : Cond.instanceMethod yX0_tells ∈ BIG ∧ Cond.selects (yX0_tells).cls yX0_tells yX0_tells ∈ BIG := ⟨bg_4 95 (by decide +kernel) rfl, big_of 25 (by decide +kernel) rfl⟩
set_option maxRecDepth 20000 in
theorem mi_X1_init : MI yX1_init cX1_init 2 none 1 := ⟨bg_1 181 rfl rfl, bg_1 6 (by decide +kernel) rfl, ⟨by decide +kernel, by decide +kernel⟩, by decide +kernel, Nat.le_of_ble_eq_true rfl⟩
theorem mv_X1_init : Cond.instanceMethod yX1_init ∈ BIG := bg_1 180 (by decide +kernel) rfl
set_option maxRecDepth 20000 in
theorem mi_X1_has : MI yX1_has cX1_has 2 (some .boolean) 1 := ⟨bg_2 88 rfl rfl, bg_1 6 (by decide +kernel) rfl, ⟨by decide +kernel, by decide +kernel⟩, by decide +kernel, Nat.le_of_ble_eq_true rfl⟩
theorem mv_X1_has : Cond.instanceMethod yX1_has ∈ BIG ∧ Cond.selects (yX1_has).cls yX1_has yX1_has ∈ BIG := ⟨bg_2 86 (by decide +kernel) rfl, bg_2 87 (by decide +kernel) rfl⟩
set_option maxRecDepth 20000 in
theorem mi_X1_isLost : MI yX1_isLost cX1_isLost 2 (some .boolean) 1 := ⟨bg_2 92 rfl rfl, bg_1 6 (by decide +kernel) rfl, ⟨by decide +kernel, by decide +kernel⟩, by decide +kernel, Nat.le_of_ble_eq_true rfl⟩
theorem mv_X1_isLost : Cond.instanceMethod yX1_isLost ∈ BIG ∧ Cond.selects (yX1_isLost).cls yX1_isLost yX1_isLost ∈ BIG := ⟨bg_2 90 (by decide +kernel) rfl, bg_2 91 (by decide +kernel) rfl⟩
set_option maxRecDepth 20000 in
theorem mi_X1_come : MI yX1_come cX1_come 5 (some .int) 4 := ⟨bg_2 80 rfl rfl, bg_1 6 (by decide +kernel) rfl, ⟨by decide +kernel, by decide +kernel⟩, by decide +kernel, Nat.le_of_ble_eq_true rfl⟩
theorem mv_X1_come : Cond.instanceMethod yX1_come ∈ BIG ∧ Cond.selects (yX1_come).cls yX1_come yX1_come ∈ BIG := ⟨bg_2 78 (by decide +kernel) rfl, bg_2 79 (by decide +kernel) rfl⟩
set_option maxRecDepth 20000 in
theorem mi_X1_takeSounds : MI yX1_takeSounds cX1_takeSounds 2 none 1 := ⟨bg_3 106 rfl rfl, bg_1 6 (by decide +kernel) rfl, ⟨by decide +kernel, by decide +kernel⟩, by decide +kernel, Nat.le_of_ble_eq_true rfl⟩
theorem mv_X1_takeSounds : Cond.instanceMethod yX1_takeSounds ∈ BIG ∧ Cond.selects (yX1_takeSounds).cls yX1_takeSounds yX1_takeSounds ∈ BIG := ⟨bg_3 104 (by decide +kernel) rfl, bg_3 105 (by decide +kernel) rfl⟩
set_option maxRecDepth 20000 in
theorem mi_X1_takeAll : MI yX1_takeAll cX1_takeAll 2 none 1 := ⟨bg_4 62 rfl rfl, bg_1 6 (by decide +kernel) rfl, ⟨by decide +kernel, by decide +kernel⟩, by decide +kernel, Nat.le_of_ble_eq_true rfl⟩
theorem mv_X1_takeAll : Cond.instanceMethod yX1_takeAll ∈ BIG ∧ Cond.selects (yX1_takeAll).cls yX1_takeAll yX1_takeAll ∈ BIG := ⟨bg_4 60 (by decide +kernel) rfl, bg_4 61 (by decide +kernel) rfl⟩
set_option maxRecDepth 20000 in
theorem mi_X1_wears : MI yX1_wears cX1_wears 2 (some .int) 1 := ⟨bg_2 120 rfl rfl, bg_1 6 (by decide +kernel) rfl, ⟨by decide +kernel, by decide +kernel⟩, by decide +kernel, Nat.le_of_ble_eq_true rfl⟩
theorem mv_X1_wears : Cond.instanceMethod yX1_wears ∈ BIG ∧ Cond.selects (yX1_wears).cls yX1_wears yX1_wears ∈ BIG := ⟨bg_2 118 (by decide +kernel) rfl, bg_2 119 (by decide +kernel) rfl⟩
set_option maxRecDepth 20000 in
theorem mi_X1_goYears : MI yX1_goYears cX1_goYears 4 none 1 := ⟨bg_3 97 rfl rfl, bg_1 6 (by decide +kernel) rfl, ⟨by decide +kernel, by decide +kernel⟩, by decide +kernel, Nat.le_of_ble_eq_true rfl⟩
theorem mv_X1_goYears : Cond.instanceMethod yX1_goYears ∈ BIG ∧ Cond.selects (yX1_goYears).cls yX1_goYears yX1_goYears ∈ BIG := ⟨bg_3 95 (by decide +kernel) rfl, bg_3 96 (by decide +kernel) rfl⟩
set_option maxRecDepth 20000 in
theorem mi_X1_go : MI yX1_go cX1_go 3 none 2 := ⟨bg_4 31 rfl rfl, bg_1 6 (by decide +kernel) rfl, ⟨by decide +kernel, by decide +kernel⟩, by decide +kernel, Nat.le_of_ble_eq_true rfl⟩
theorem mv_X1_go : Cond.instanceMethod yX1_go ∈ BIG ∧ Cond.selects (yX1_go).cls yX1_go yX1_go ∈ BIG := ⟨bg_4 29 (by decide +kernel) rfl, bg_4 30 (by decide +kernel) rfl⟩
set_option maxRecDepth 20000 in
theorem mi_X1_voiceIn : MI yX1_voiceIn cX1_voiceIn 5 (some .int) 2 := ⟨bg_2 96 rfl rfl, bg_1 6 (by decide +kernel) rfl, ⟨by decide +kernel, by decide +kernel⟩, by decide +kernel, Nat.le_of_ble_eq_true rfl⟩
theorem mv_X1_voiceIn : Cond.instanceMethod yX1_voiceIn ∈ BIG ∧ Cond.selects (yX1_voiceIn).cls yX1_voiceIn yX1_voiceIn ∈ BIG := ⟨bg_2 94 (by decide +kernel) rfl, bg_2 95 (by decide +kernel) rfl⟩
set_option maxRecDepth 20000 in
theorem mi_X1_heard : MI yX1_heard cX1_heard 9 (some .int) 4 := ⟨bg_2 113 rfl rfl, bg_1 6 (by decide +kernel) rfl, ⟨by decide +kernel, by decide +kernel⟩, by decide +kernel, Nat.le_of_ble_eq_true rfl⟩
theorem mv_X1_heard : Cond.instanceMethod yX1_heard ∈ BIG ∧ Cond.selects (yX1_heard).cls yX1_heard yX1_heard ∈ BIG := ⟨bg_2 111 (by decide +kernel) rfl, bg_2 112 (by decide +kernel) rfl⟩
set_option maxRecDepth 20000 in
theorem mi_X1_heardIn : MI yX1_heardIn cX1_heardIn 3 (some .int) 2 := ⟨bg_2 107 rfl rfl, bg_1 6 (by decide +kernel) rfl, ⟨by decide +kernel, by decide +kernel⟩, by decide +kernel, Nat.le_of_ble_eq_true rfl⟩
theorem mv_X1_heardIn : Cond.instanceMethod yX1_heardIn ∈ BIG ∧ Cond.selects (yX1_heardIn).cls yX1_heardIn yX1_heardIn ∈ BIG := ⟨bg_2 105 (by decide +kernel) rfl, bg_2 106 (by decide +kernel) rfl⟩
set_option maxRecDepth 20000 in
theorem mi_X1_noiseOf : MI yX1_noiseOf cX1_noiseOf 4 (some .int) 1 := ⟨bg_2 133 rfl rfl, bg_1 6 (by decide +kernel) rfl, ⟨by decide +kernel, by decide +kernel⟩, by decide +kernel, Nat.le_of_ble_eq_true rfl⟩
theorem mv_X1_noiseOf : Cond.instanceMethod yX1_noiseOf ∈ BIG ∧ Cond.selects (yX1_noiseOf).cls yX1_noiseOf yX1_noiseOf ∈ BIG := ⟨bg_2 131 (by decide +kernel) rfl, bg_2 132 (by decide +kernel) rfl⟩
set_option maxRecDepth 20000 in
theorem mi_X1_greatest : MI yX1_greatest cX1_greatest 3 (some .int) 0 := ⟨bg_3 84 rfl rfl, bg_1 6 (by decide +kernel) rfl, ⟨by decide +kernel, by decide +kernel⟩, by decide +kernel, Nat.le_of_ble_eq_true rfl⟩
theorem mv_X1_greatest : Cond.instanceMethod yX1_greatest ∈ BIG ∧ Cond.selects (yX1_greatest).cls yX1_greatest yX1_greatest ∈ BIG := ⟨bg_3 82 (by decide +kernel) rfl, bg_3 83 (by decide +kernel) rfl⟩
set_option maxRecDepth 20000 in
theorem mi_X1_stillHouses : MI yX1_stillHouses cX1_stillHouses 3 (some .int) 0 := ⟨bg_3 89 rfl rfl, bg_1 6 (by decide +kernel) rfl, ⟨by decide +kernel, by decide +kernel⟩, by decide +kernel, Nat.le_of_ble_eq_true rfl⟩
theorem mv_X1_stillHouses : Cond.instanceMethod yX1_stillHouses ∈ BIG ∧ Cond.selects (yX1_stillHouses).cls yX1_stillHouses yX1_stillHouses ∈ BIG := ⟨bg_3 87 (by decide +kernel) rfl, bg_3 88 (by decide +kernel) rfl⟩
set_option maxRecDepth 20000 in
theorem mi_X2_init : MI yX2_init cX2_init 2 none 1 := ⟨bg_1 187 rfl rfl, bg_1 7 (by decide +kernel) rfl, ⟨by decide +kernel, by decide +kernel⟩, by decide +kernel, Nat.le_of_ble_eq_true rfl⟩
theorem mv_X2_init : Cond.instanceMethod yX2_init ∈ BIG := bg_1 186 (by decide +kernel) rfl
set_option maxRecDepth 20000 in
theorem mi_X2_isFull : MI yX2_isFull cX2_isFull 1 (some .boolean) 0 := ⟨bg_3 216 rfl rfl, bg_1 7 (by decide +kernel) rfl, ⟨by decide +kernel, by decide +kernel⟩, by decide +kernel, Nat.le_of_ble_eq_true rfl⟩
theorem mv_X2_isFull : Cond.instanceMethod yX2_isFull ∈ BIG ∧ Cond.selects (yX2_isFull).cls yX2_isFull yX2_isFull ∈ BIG := ⟨bg_3 214 (by decide +kernel) rfl, bg_3 215 (by decide +kernel) rfl⟩
set_option maxRecDepth 20000 in
theorem mi_X2_empty : MI yX2_empty cX2_empty 1 (some .int) 0 := ⟨bg_3 212 rfl rfl, bg_1 7 (by decide +kernel) rfl, ⟨by decide +kernel, by decide +kernel⟩, by decide +kernel, Nat.le_of_ble_eq_true rfl⟩
theorem mv_X2_empty : Cond.instanceMethod yX2_empty ∈ BIG ∧ Cond.selects (yX2_empty).cls yX2_empty yX2_empty ∈ BIG := ⟨bg_3 210 (by decide +kernel) rfl, bg_3 211 (by decide +kernel) rfl⟩
set_option maxRecDepth 20000 in
theorem mi_X2_add : MI yX2_add cX2_add 4 (some .int) 3 := ⟨bg_3 220 rfl rfl, bg_1 7 (by decide +kernel) rfl, ⟨by decide +kernel, by decide +kernel⟩, by decide +kernel, Nat.le_of_ble_eq_true rfl⟩
theorem mv_X2_add : Cond.instanceMethod yX2_add ∈ BIG ∧ Cond.selects (yX2_add).cls yX2_add yX2_add ∈ BIG := ⟨bg_3 218 (by decide +kernel) rfl, bg_3 219 (by decide +kernel) rfl⟩
set_option maxRecDepth 20000 in
theorem mi_X2_takeAll : MI yX2_takeAll cX2_takeAll 2 none 1 := ⟨bg_4 67 rfl rfl, bg_1 7 (by decide +kernel) rfl, ⟨by decide +kernel, by decide +kernel⟩, by decide +kernel, Nat.le_of_ble_eq_true rfl⟩
theorem mv_X2_takeAll : Cond.instanceMethod yX2_takeAll ∈ BIG ∧ Cond.selects (yX2_takeAll).cls yX2_takeAll yX2_takeAll ∈ BIG := ⟨bg_4 65 (by decide +kernel) rfl, bg_4 66 (by decide +kernel) rfl⟩
set_option maxRecDepth 20000 in
theorem mi_X3_init : MI yX3_init cX3_init 1 none 0 := ⟨bg_1 128 rfl rfl, bg_1 5 (by decide +kernel) rfl, ⟨by decide +kernel, by decide +kernel⟩, by decide +kernel, Nat.le_of_ble_eq_true rfl⟩
theorem mv_X3_init : Cond.instanceMethod yX3_init ∈ BIG := bg_1 127 (by decide +kernel) rfl
set_option maxRecDepth 20000 in
theorem mi_X3_empty : MI yX3_empty cX3_empty 1 none 0 := ⟨bg_1 133 rfl rfl, bg_1 5 (by decide +kernel) rfl, ⟨by decide +kernel, by decide +kernel⟩, by decide +kernel, Nat.le_of_ble_eq_true rfl⟩
theorem mv_X3_empty : Cond.instanceMethod yX3_empty ∈ BIG ∧ Cond.selects (yX3_empty).cls yX3_empty yX3_empty ∈ BIG := ⟨bg_1 131 (by decide +kernel) rfl, bg_1 132 (by decide +kernel) rfl⟩
set_option maxRecDepth 20000 in
theorem mi_X3_add : MI yX3_add cX3_add 4 none 3 := ⟨bg_3 66 rfl rfl, bg_1 5 (by decide +kernel) rfl, ⟨by decide +kernel, by decide +kernel⟩, by decide +kernel, Nat.le_of_ble_eq_true rfl⟩
theorem mv_X3_add : Cond.instanceMethod yX3_add ∈ BIG ∧ Cond.selects (yX3_add).cls yX3_add yX3_add ∈ BIG := ⟨bg_3 64 (by decide +kernel) rfl, bg_3 65 (by decide +kernel) rfl⟩
set_option maxRecDepth 20000 in
theorem mi_X3_endClause : MI yX3_endClause cX3_endClause 2 none 1 := ⟨bg_3 76 rfl rfl, bg_1 5 (by decide +kernel) rfl, ⟨by decide +kernel, by decide +kernel⟩, by decide +kernel, Nat.le_of_ble_eq_true rfl⟩
theorem mv_X3_endClause : Cond.instanceMethod yX3_endClause ∈ BIG ∧ Cond.selects (yX3_endClause).cls yX3_endClause yX3_endClause ∈ BIG := ⟨bg_3 74 (by decide +kernel) rfl, bg_3 75 (by decide +kernel) rfl⟩
set_option maxRecDepth 20000 in
theorem mi_X3_holds : MI yX3_holds cX3_holds 7 (some .boolean) 2 := ⟨bg_2 100 rfl rfl, bg_1 5 (by decide +kernel) rfl, ⟨by decide +kernel, by decide +kernel⟩, by decide +kernel, Nat.le_of_ble_eq_true rfl⟩
theorem mv_X3_holds : Cond.instanceMethod yX3_holds ∈ BIG ∧ Cond.selects (yX3_holds).cls yX3_holds yX3_holds ∈ BIG := ⟨bg_2 98 (by decide +kernel) rfl, bg_2 99 (by decide +kernel) rfl⟩
set_option maxRecDepth 20000 in
theorem mi_X4_init : MI yX4_init cX4_init 1 none 0 := ⟨bg_2 20 rfl rfl, bg_1 8 (by decide +kernel) rfl, ⟨by decide +kernel, by decide +kernel⟩, by decide +kernel, Nat.le_of_ble_eq_true rfl⟩
theorem mv_X4_init : Cond.instanceMethod yX4_init ∈ BIG := bg_2 19 (by decide +kernel) rfl
set_option maxRecDepth 20000 in
theorem mi_X4_become : MI yX4_become cX4_become 4 none 2 := ⟨bg_4 118 rfl rfl, bg_1 8 (by decide +kernel) rfl, ⟨by decide +kernel, by decide +kernel⟩, by decide +kernel, Nat.le_of_ble_eq_true rfl⟩
theorem mv_X4_become : Cond.instanceMethod yX4_become ∈ BIG ∧ Cond.selects (yX4_become).cls yX4_become yX4_become ∈ BIG := ⟨bg_4 116 (by decide +kernel) rfl, bg_4 117 (by decide +kernel) rfl⟩
set_option maxRecDepth 20000 in
theorem mi_X4_hasPlace : MI yX4_hasPlace cX4_hasPlace 2 (some .boolean) 1 := ⟨bg_4 126 rfl rfl, bg_1 8 (by decide +kernel) rfl, ⟨by decide +kernel, by decide +kernel⟩, by decide +kernel, Nat.le_of_ble_eq_true rfl⟩
theorem mv_X4_hasPlace : Cond.instanceMethod yX4_hasPlace ∈ BIG ∧ Cond.selects (yX4_hasPlace).cls yX4_hasPlace yX4_hasPlace ∈ BIG := ⟨bg_4 124 (by decide +kernel) rfl, bg_4 125 (by decide +kernel) rfl⟩
set_option maxRecDepth 20000 in
theorem mi_X4_hasPlaces : MI yX4_hasPlaces cX4_hasPlaces 3 (some .boolean) 2 := ⟨bg_4 142 rfl rfl, bg_1 8 (by decide +kernel) rfl, ⟨by decide +kernel, by decide +kernel⟩, by decide +kernel, Nat.le_of_ble_eq_true rfl⟩
theorem mv_X4_hasPlaces : Cond.instanceMethod yX4_hasPlaces ∈ BIG ∧ Cond.selects (yX4_hasPlaces).cls yX4_hasPlaces yX4_hasPlaces ∈ BIG := ⟨bg_4 140 (by decide +kernel) rfl, bg_4 141 (by decide +kernel) rfl⟩
set_option maxRecDepth 20000 in
theorem mi_X4_put : MI yX4_put cX4_put 4 none 2 := ⟨bg_4 130 rfl rfl, bg_1 8 (by decide +kernel) rfl, ⟨by decide +kernel, by decide +kernel⟩, by decide +kernel, Nat.le_of_ble_eq_true rfl⟩
theorem mv_X4_put : Cond.instanceMethod yX4_put ∈ BIG ∧ Cond.selects (yX4_put).cls yX4_put yX4_put ∈ BIG := ⟨bg_4 128 (by decide +kernel) rfl, bg_4 129 (by decide +kernel) rfl⟩
set_option maxRecDepth 20000 in
theorem mi_X5_init : MI yX5_init cX5_init 1 none 0 := ⟨bg_1 30 rfl rfl, bg_1 2 (by decide +kernel) rfl, ⟨by decide +kernel, by decide +kernel⟩, by decide +kernel, Nat.le_of_ble_eq_true rfl⟩
theorem mv_X5_init : Cond.instanceMethod yX5_init ∈ BIG := bg_1 29 (by decide +kernel) rfl
set_option maxRecDepth 20000 in
theorem mi_X5_grow : MI yX5_grow cX5_grow 2 (some .int) 1 := ⟨bg_2 154 rfl rfl, bg_1 2 (by decide +kernel) rfl, ⟨by decide +kernel, by decide +kernel⟩, by decide +kernel, Nat.le_of_ble_eq_true rfl⟩
theorem mv_X5_grow : Cond.instanceMethod yX5_grow ∈ BIG ∧ Cond.selects (yX5_grow).cls yX5_grow yX5_grow ∈ BIG := ⟨bg_2 152 (by decide +kernel) rfl, bg_2 153 (by decide +kernel) rfl⟩
set_option maxRecDepth 20000 in
theorem mi_X5_makes : MI yX5_makes cX5_makes 4 (some .boolean) 1 := ⟨bg_2 162 rfl rfl, bg_1 2 (by decide +kernel) rfl, ⟨by decide +kernel, by decide +kernel⟩, by decide +kernel, Nat.le_of_ble_eq_true rfl⟩
theorem mv_X5_makes : Cond.instanceMethod yX5_makes ∈ BIG ∧ Cond.selects (yX5_makes).cls yX5_makes yX5_makes ∈ BIG := ⟨bg_2 160 (by decide +kernel) rfl, bg_2 161 (by decide +kernel) rfl⟩
set_option maxRecDepth 20000 in
theorem mi_X5_readsClause : MI yX5_readsClause cX5_readsClause 4 (some .boolean) 0 := ⟨bg_2 167 rfl rfl, bg_1 2 (by decide +kernel) rfl, ⟨by decide +kernel, by decide +kernel⟩, by decide +kernel, Nat.le_of_ble_eq_true rfl⟩
theorem mv_X5_readsClause : Cond.instanceMethod yX5_readsClause ∈ BIG ∧ Cond.selects (yX5_readsClause).cls yX5_readsClause yX5_readsClause ∈ BIG := ⟨bg_2 166 (by decide +kernel) rfl, big_of 0 (by decide +kernel) rfl⟩
set_option maxRecDepth 20000 in
theorem mi_X5_readWord : MI yX5_readWord cX5_readWord 4 (some .int) 0 := ⟨bg_2 171 rfl rfl, bg_1 2 (by decide +kernel) rfl, ⟨by decide +kernel, by decide +kernel⟩, by decide +kernel, Nat.le_of_ble_eq_true rfl⟩
theorem mv_X5_readWord : Cond.instanceMethod yX5_readWord ∈ BIG ∧ Cond.selects (yX5_readWord).cls yX5_readWord yX5_readWord ∈ BIG := ⟨bg_2 170 (by decide +kernel) rfl, big_of 1 (by decide +kernel) rfl⟩
set_option maxRecDepth 20000 in
theorem mi_X5_readsAny : MI yX5_readsAny cX5_readsAny 4 (some .boolean) 1 := ⟨bg_3 54 rfl rfl, bg_1 2 (by decide +kernel) rfl, ⟨by decide +kernel, by decide +kernel⟩, by decide +kernel, Nat.le_of_ble_eq_true rfl⟩
theorem mv_X5_readsAny : Cond.instanceMethod yX5_readsAny ∈ BIG ∧ Cond.selects (yX5_readsAny).cls yX5_readsAny yX5_readsAny ∈ BIG := ⟨bg_3 53 (by decide +kernel) rfl, big_of 5 (by decide +kernel) rfl⟩
set_option maxRecDepth 20000 in
theorem mi_X5_readsAll : MI yX5_readsAll cX5_readsAll 4 (some .boolean) 1 := ⟨bg_3 58 rfl rfl, bg_1 2 (by decide +kernel) rfl, ⟨by decide +kernel, by decide +kernel⟩, by decide +kernel, Nat.le_of_ble_eq_true rfl⟩
theorem mv_X5_readsAll : Cond.instanceMethod yX5_readsAll ∈ BIG ∧ Cond.selects (yX5_readsAll).cls yX5_readsAll yX5_readsAll ∈ BIG := ⟨bg_3 57 (by decide +kernel) rfl, big_of 6 (by decide +kernel) rfl⟩
set_option maxRecDepth 20000 in
theorem mi_X5_readsOne : MI yX5_readsOne cX5_readsOne 3 (some .boolean) 1 := ⟨bg_3 62 rfl rfl, bg_1 2 (by decide +kernel) rfl, ⟨by decide +kernel, by decide +kernel⟩, by decide +kernel, Nat.le_of_ble_eq_true rfl⟩
theorem mv_X5_readsOne : Cond.instanceMethod yX5_readsOne ∈ BIG ∧ Cond.selects (yX5_readsOne).cls yX5_readsOne yX5_readsOne ∈ BIG := ⟨bg_3 61 (by decide +kernel) rfl, big_of 7 (by decide +kernel) rfl⟩
set_option maxRecDepth 20000 in
theorem mi_X5_readsTest : MI yX5_readsTest cX5_readsTest 4 (some .boolean) 0 := ⟨bg_3 70 rfl rfl, bg_1 2 (by decide +kernel) rfl, ⟨by decide +kernel, by decide +kernel⟩, by decide +kernel, Nat.le_of_ble_eq_true rfl⟩
theorem mv_X5_readsTest : Cond.instanceMethod yX5_readsTest ∈ BIG ∧ Cond.selects (yX5_readsTest).cls yX5_readsTest yX5_readsTest ∈ BIG := ⟨bg_3 69 (by decide +kernel) rfl, big_of 8 (by decide +kernel) rfl⟩
set_option maxRecDepth 20000 in
theorem mi_X5_readNumber : MI yX5_readNumber cX5_readNumber 3 (some .int) 0 := ⟨bg_2 221 rfl rfl, bg_1 2 (by decide +kernel) rfl, ⟨by decide +kernel, by decide +kernel⟩, by decide +kernel, Nat.le_of_ble_eq_true rfl⟩
theorem mv_X5_readNumber : Cond.instanceMethod yX5_readNumber ∈ BIG ∧ Cond.selects (yX5_readNumber).cls yX5_readNumber yX5_readNumber ∈ BIG := ⟨bg_2 220 (by decide +kernel) rfl, big_of 3 (by decide +kernel) rfl⟩
set_option maxRecDepth 20000 in
theorem mi_X5_readOneOf : MI yX5_readOneOf cX5_readOneOf 3 (some .int) 1 := ⟨bg_2 226 rfl rfl, bg_1 2 (by decide +kernel) rfl, ⟨by decide +kernel, by decide +kernel⟩, by decide +kernel, Nat.le_of_ble_eq_true rfl⟩
theorem mv_X5_readOneOf : Cond.instanceMethod yX5_readOneOf ∈ BIG ∧ Cond.selects (yX5_readOneOf).cls yX5_readOneOf yX5_readOneOf ∈ BIG := ⟨bg_2 225 (by decide +kernel) rfl, big_of 4 (by decide +kernel) rfl⟩
set_option maxRecDepth 20000 in
theorem mi_X5_readsSign : MI yX5_readsSign cX5_readsSign 2 (some .boolean) 1 := ⟨bg_2 217 rfl rfl, bg_1 2 (by decide +kernel) rfl, ⟨by decide +kernel, by decide +kernel⟩, by decide +kernel, Nat.le_of_ble_eq_true rfl⟩
theorem mv_X5_readsSign : Cond.instanceMethod yX5_readsSign ∈ BIG ∧ Cond.selects (yX5_readsSign).cls yX5_readsSign yX5_readsSign ∈ BIG := ⟨bg_2 216 (by decide +kernel) rfl, big_of 2 (by decide +kernel) rfl⟩
set_option maxRecDepth 20000 in
theorem mi_X6_init : MI yX6_init cX6_init 1 none 0 := ⟨bg_1 54 rfl rfl, bg_1 3 (by decide +kernel) rfl, ⟨by decide +kernel, by decide +kernel⟩, by decide +kernel, Nat.le_of_ble_eq_true rfl⟩
theorem mv_X6_init : Cond.instanceMethod yX6_init ∈ BIG := bg_1 53 (by decide +kernel) rfl
set_option maxRecDepth 20000 in
theorem mi_X6_take : MI yX6_take cX6_take 6 none 1 := ⟨bg_3 129 rfl rfl, bg_1 3 (by decide +kernel) rfl, ⟨by decide +kernel, by decide +kernel⟩, by decide +kernel, Nat.le_of_ble_eq_true rfl⟩
theorem mv_X6_take : Cond.instanceMethod yX6_take ∈ BIG ∧ Cond.selects (yX6_take).cls yX6_take yX6_take ∈ BIG := ⟨bg_3 127 (by decide +kernel) rfl, bg_3 128 (by decide +kernel) rfl⟩
set_option maxRecDepth 20000 in
theorem mi_X6_put : MI yX6_put cX6_put 4 none 2 := ⟨bg_3 136 rfl rfl, bg_1 3 (by decide +kernel) rfl, ⟨by decide +kernel, by decide +kernel⟩, by decide +kernel, Nat.le_of_ble_eq_true rfl⟩
theorem mv_X6_put : Cond.instanceMethod yX6_put ∈ BIG ∧ Cond.selects (yX6_put).cls yX6_put yX6_put ∈ BIG := ⟨bg_3 135 (by decide +kernel) rfl, big_of 11 (by decide +kernel) rfl⟩
set_option maxRecDepth 20000 in
theorem mi_X6_heardFrom : MI yX6_heardFrom cX6_heardFrom 4 (some .int) 3 := ⟨bg_3 140 rfl rfl, bg_1 3 (by decide +kernel) rfl, ⟨by decide +kernel, by decide +kernel⟩, by decide +kernel, Nat.le_of_ble_eq_true rfl⟩
theorem mv_X6_heardFrom : Cond.instanceMethod yX6_heardFrom ∈ BIG ∧ Cond.selects (yX6_heardFrom).cls yX6_heardFrom yX6_heardFrom ∈ BIG := ⟨bg_3 139 (by decide +kernel) rfl, big_of 12 (by decide +kernel) rfl⟩
set_option maxRecDepth 20000 in
theorem mi_X6_greatest : MI yX6_greatest cX6_greatest 3 (some .int) 0 := ⟨bg_3 149 rfl rfl, bg_1 3 (by decide +kernel) rfl, ⟨by decide +kernel, by decide +kernel⟩, by decide +kernel, Nat.le_of_ble_eq_true rfl⟩
theorem mv_X6_greatest : Cond.instanceMethod yX6_greatest ∈ BIG ∧ Cond.selects (yX6_greatest).cls yX6_greatest yX6_greatest ∈ BIG := ⟨bg_3 148 (by decide +kernel) rfl, big_of 13 (by decide +kernel) rfl⟩
set_option maxRecDepth 20000 in
theorem mi_X6_calmestHouse : MI yX6_calmestHouse cX6_calmestHouse 6 (some .int) 1 := ⟨bg_3 144 rfl rfl, bg_1 3 (by decide +kernel) rfl, ⟨by decide +kernel, by decide +kernel⟩, by decide +kernel, Nat.le_of_ble_eq_true rfl⟩
theorem mv_X6_calmestHouse : Cond.instanceMethod yX6_calmestHouse ∈ BIG ∧ Cond.selects (yX6_calmestHouse).cls yX6_calmestHouse yX6_calmestHouse ∈ BIG := ⟨bg_3 142 (by decide +kernel) rfl, bg_3 143 (by decide +kernel) rfl⟩
set_option maxRecDepth 20000 in
theorem mi_X6_shareOut : MI yX6_shareOut cX6_shareOut 3 none 0 := ⟨bg_3 158 rfl rfl, bg_1 3 (by decide +kernel) rfl, ⟨by decide +kernel, by decide +kernel⟩, by decide +kernel, Nat.le_of_ble_eq_true rfl⟩
theorem mv_X6_shareOut : Cond.instanceMethod yX6_shareOut ∈ BIG ∧ Cond.selects (yX6_shareOut).cls yX6_shareOut yX6_shareOut ∈ BIG := ⟨bg_3 156 (by decide +kernel) rfl, bg_3 157 (by decide +kernel) rfl⟩
set_option maxRecDepth 20000 in
theorem mi_X6_leastHeard : MI yX6_leastHeard cX6_leastHeard 5 (some .int) 2 := ⟨bg_3 162 rfl rfl, bg_1 3 (by decide +kernel) rfl, ⟨by decide +kernel, by decide +kernel⟩, by decide +kernel, Nat.le_of_ble_eq_true rfl⟩
theorem mv_X6_leastHeard : Cond.instanceMethod yX6_leastHeard ∈ BIG ∧ Cond.selects (yX6_leastHeard).cls yX6_leastHeard yX6_leastHeard ∈ BIG := ⟨bg_3 161 (by decide +kernel) rfl, big_of 14 (by decide +kernel) rfl⟩
set_option maxRecDepth 20000 in
theorem mi_X6_shareFrom : MI yX6_shareFrom cX6_shareFrom 5 none 1 := ⟨bg_3 167 rfl rfl, bg_1 3 (by decide +kernel) rfl, ⟨by decide +kernel, by decide +kernel⟩, by decide +kernel, Nat.le_of_ble_eq_true rfl⟩
theorem mv_X6_shareFrom : Cond.instanceMethod yX6_shareFrom ∈ BIG ∧ Cond.selects (yX6_shareFrom).cls yX6_shareFrom yX6_shareFrom ∈ BIG := ⟨bg_3 166 (by decide +kernel) rfl, big_of 15 (by decide +kernel) rfl⟩
set_option maxRecDepth 20000 in
theorem mi_X6_isBetter : MI yX6_isBetter cX6_isBetter 8 (some .boolean) 2 := ⟨bg_3 175 rfl rfl, bg_1 3 (by decide +kernel) rfl, ⟨by decide +kernel, by decide +kernel⟩, by decide +kernel, Nat.le_of_ble_eq_true rfl⟩
theorem mv_X6_isBetter : Cond.instanceMethod yX6_isBetter ∈ BIG ∧ Cond.selects (yX6_isBetter).cls yX6_isBetter yX6_isBetter ∈ BIG := ⟨bg_3 174 (by decide +kernel) rfl, big_of 17 (by decide +kernel) rfl⟩
set_option maxRecDepth 20000 in
theorem mi_X6_keepWay : MI yX6_keepWay cX6_keepWay 3 none 0 := ⟨bg_3 171 rfl rfl, bg_1 3 (by decide +kernel) rfl, ⟨by decide +kernel, by decide +kernel⟩, by decide +kernel, Nat.le_of_ble_eq_true rfl⟩
theorem mv_X6_keepWay : Cond.instanceMethod yX6_keepWay ∈ BIG ∧ Cond.selects (yX6_keepWay).cls yX6_keepWay yX6_keepWay ∈ BIG := ⟨bg_3 170 (by decide +kernel) rfl, big_of 16 (by decide +kernel) rfl⟩
set_option maxRecDepth 20000 in
theorem mi_X6_bestSwap : MI yX6_bestSwap cX6_bestSwap 6 (some .int) 0 := ⟨bg_3 183 rfl rfl, bg_1 3 (by decide +kernel) rfl, ⟨by decide +kernel, by decide +kernel⟩, by decide +kernel, Nat.le_of_ble_eq_true rfl⟩
theorem mv_X6_bestSwap : Cond.instanceMethod yX6_bestSwap ∈ BIG ∧ Cond.selects (yX6_bestSwap).cls yX6_bestSwap yX6_bestSwap ∈ BIG := ⟨bg_3 181 (by decide +kernel) rfl, bg_3 182 (by decide +kernel) rfl⟩
set_option maxRecDepth 20000 in
theorem mi_X6_swap : MI yX6_swap cX6_swap 4 none 2 := ⟨bg_3 187 rfl rfl, bg_1 3 (by decide +kernel) rfl, ⟨by decide +kernel, by decide +kernel⟩, by decide +kernel, Nat.le_of_ble_eq_true rfl⟩
theorem mv_X6_swap : Cond.instanceMethod yX6_swap ∈ BIG ∧ Cond.selects (yX6_swap).cls yX6_swap yX6_swap ∈ BIG := ⟨bg_3 186 (by decide +kernel) rfl, big_of 18 (by decide +kernel) rfl⟩
set_option maxRecDepth 20000 in
theorem mi_X6_worstSound : MI yX6_worstSound cX6_worstSound 6 (some .int) 0 := ⟨bg_3 191 rfl rfl, bg_1 3 (by decide +kernel) rfl, ⟨by decide +kernel, by decide +kernel⟩, by decide +kernel, Nat.le_of_ble_eq_true rfl⟩
theorem mv_X6_worstSound : Cond.instanceMethod yX6_worstSound ∈ BIG ∧ Cond.selects (yX6_worstSound).cls yX6_worstSound yX6_worstSound ∈ BIG := ⟨bg_3 189 (by decide +kernel) rfl, bg_3 190 (by decide +kernel) rfl⟩
set_option maxRecDepth 20000 in
theorem mi_X6_stillWithoutOne : MI yX6_stillWithoutOne cX6_stillWithoutOne 5 (some .int) 1 := ⟨bg_4 9 rfl rfl, bg_1 3 (by decide +kernel) rfl, ⟨by decide +kernel, by decide +kernel⟩, by decide +kernel, Nat.le_of_ble_eq_true rfl⟩
theorem mv_X6_stillWithoutOne : Cond.instanceMethod yX6_stillWithoutOne ∈ BIG ∧ Cond.selects (yX6_stillWithoutOne).cls yX6_stillWithoutOne yX6_stillWithoutOne ∈ BIG := ⟨bg_4 7 (by decide +kernel) rfl, bg_4 8 (by decide +kernel) rfl⟩
set_option maxRecDepth 20000 in
theorem mi_X6_fewestSteps : MI yX6_fewestSteps cX6_fewestSteps 2 (some .int) 0 := ⟨bg_3 199 rfl rfl, bg_1 3 (by decide +kernel) rfl, ⟨by decide +kernel, by decide +kernel⟩, by decide +kernel, Nat.le_of_ble_eq_true rfl⟩
theorem mv_X6_fewestSteps : Cond.instanceMethod yX6_fewestSteps ∈ BIG ∧ Cond.selects (yX6_fewestSteps).cls yX6_fewestSteps yX6_fewestSteps ∈ BIG := ⟨bg_3 197 (by decide +kernel) rfl, bg_3 198 (by decide +kernel) rfl⟩
set_option maxRecDepth 20000 in
theorem mi_X6_isStillBy : MI yX6_isStillBy cX6_isStillBy 6 (some .boolean) 2 := ⟨bg_3 203 rfl rfl, bg_1 3 (by decide +kernel) rfl, ⟨by decide +kernel, by decide +kernel⟩, by decide +kernel, Nat.le_of_ble_eq_true rfl⟩
theorem mv_X6_isStillBy : Cond.instanceMethod yX6_isStillBy ∈ BIG ∧ Cond.selects (yX6_isStillBy).cls yX6_isStillBy yX6_isStillBy ∈ BIG := ⟨bg_3 202 (by decide +kernel) rfl, big_of 19 (by decide +kernel) rfl⟩
set_option maxRecDepth 20000 in
theorem mi_X7_init : MI yX7_init cX7_init 3 none 0 := ⟨bg_1 22 rfl rfl, bg_1 1 (by decide +kernel) rfl, ⟨by decide +kernel, by decide +kernel⟩, by decide +kernel, Nat.le_of_ble_eq_true rfl⟩
theorem mv_X7_init : Cond.instanceMethod yX7_init ∈ BIG := bg_1 21 (by decide +kernel) rfl
set_option maxRecDepth 20000 in
theorem mi_X7_sound : MI yX7_sound cX7_sound 5 (some .int) 4 := ⟨bg_2 70 rfl rfl, bg_1 1 (by decide +kernel) rfl, ⟨by decide +kernel, by decide +kernel⟩, by decide +kernel, Nat.le_of_ble_eq_true rfl⟩
theorem mv_X7_sound : Cond.instanceMethod yX7_sound ∈ BIG ∧ Cond.selects (yX7_sound).cls yX7_sound yX7_sound ∈ BIG := ⟨bg_2 68 (by decide +kernel) rfl, bg_2 69 (by decide +kernel) rfl⟩
set_option maxRecDepth 20000 in
theorem mi_X7_of : MI yX7_of cX7_of 3 (some .int) 2 := ⟨bg_2 84 rfl rfl, bg_1 1 (by decide +kernel) rfl, ⟨by decide +kernel, by decide +kernel⟩, by decide +kernel, Nat.le_of_ble_eq_true rfl⟩
theorem mv_X7_of : Cond.instanceMethod yX7_of ∈ BIG ∧ Cond.selects (yX7_of).cls yX7_of yX7_of ∈ BIG := ⟨bg_2 82 (by decide +kernel) rfl, bg_2 83 (by decide +kernel) rfl⟩
set_option maxRecDepth 20000 in
theorem mi_X7_set : MI yX7_set cX7_set 4 (some .int) 2 := ⟨bg_2 124 rfl rfl, bg_1 1 (by decide +kernel) rfl, ⟨by decide +kernel, by decide +kernel⟩, by decide +kernel, Nat.le_of_ble_eq_true rfl⟩
theorem mv_X7_set : Cond.instanceMethod yX7_set ∈ BIG ∧ Cond.selects (yX7_set).cls yX7_set yX7_set ∈ BIG := ⟨bg_2 122 (by decide +kernel) rfl, bg_2 123 (by decide +kernel) rfl⟩
set_option maxRecDepth 20000 in
theorem mi_X7_pass : MI yX7_pass cX7_pass 3 (some .int) 2 := ⟨bg_2 128 rfl rfl, bg_1 1 (by decide +kernel) rfl, ⟨by decide +kernel, by decide +kernel⟩, by decide +kernel, Nat.le_of_ble_eq_true rfl⟩
theorem mv_X7_pass : Cond.instanceMethod yX7_pass ∈ BIG ∧ Cond.selects (yX7_pass).cls yX7_pass yX7_pass ∈ BIG := ⟨bg_2 126 (by decide +kernel) rfl, bg_2 127 (by decide +kernel) rfl⟩
set_option maxRecDepth 20000 in
theorem mi_X7_lose : MI yX7_lose cX7_lose 3 (some .int) 1 := ⟨bg_2 138 rfl rfl, bg_1 1 (by decide +kernel) rfl, ⟨by decide +kernel, by decide +kernel⟩, by decide +kernel, Nat.le_of_ble_eq_true rfl⟩
theorem mv_X7_lose : Cond.instanceMethod yX7_lose ∈ BIG ∧ Cond.selects (yX7_lose).cls yX7_lose yX7_lose ∈ BIG := ⟨bg_2 136 (by decide +kernel) rfl, bg_2 137 (by decide +kernel) rfl⟩
set_option maxRecDepth 20000 in
theorem mi_X7_find : MI yX7_find cX7_find 3 (some .int) 2 := ⟨bg_2 142 rfl rfl, bg_1 1 (by decide +kernel) rfl, ⟨by decide +kernel, by decide +kernel⟩, by decide +kernel, Nat.le_of_ble_eq_true rfl⟩
theorem mv_X7_find : Cond.instanceMethod yX7_find ∈ BIG ∧ Cond.selects (yX7_find).cls yX7_find yX7_find ∈ BIG := ⟨bg_2 140 (by decide +kernel) rfl, bg_2 141 (by decide +kernel) rfl⟩
set_option maxRecDepth 20000 in
theorem mi_X7_row : MI yX7_row cX7_row 6 (some .int) 3 := ⟨bg_2 146 rfl rfl, bg_1 1 (by decide +kernel) rfl, ⟨by decide +kernel, by decide +kernel⟩, by decide +kernel, Nat.le_of_ble_eq_true rfl⟩
theorem mv_X7_row : Cond.instanceMethod yX7_row ∈ BIG ∧ Cond.selects (yX7_row).cls yX7_row yX7_row ∈ BIG := ⟨bg_2 144 (by decide +kernel) rfl, bg_2 145 (by decide +kernel) rfl⟩
set_option maxRecDepth 20000 in
theorem mi_X7_feed : MI yX7_feed cX7_feed 2 (some .int) 1 := ⟨bg_2 150 rfl rfl, bg_1 1 (by decide +kernel) rfl, ⟨by decide +kernel, by decide +kernel⟩, by decide +kernel, Nat.le_of_ble_eq_true rfl⟩
theorem mv_X7_feed : Cond.instanceMethod yX7_feed ∈ BIG ∧ Cond.selects (yX7_feed).cls yX7_feed yX7_feed ∈ BIG := ⟨bg_2 148 (by decide +kernel) rfl, bg_2 149 (by decide +kernel) rfl⟩
set_option maxRecDepth 20000 in
theorem mi_X7_street : MI yX7_street cX7_street 3 (some .int) 0 := ⟨bg_2 158 rfl rfl, bg_1 1 (by decide +kernel) rfl, ⟨by decide +kernel, by decide +kernel⟩, by decide +kernel, Nat.le_of_ble_eq_true rfl⟩
theorem mv_X7_street : Cond.instanceMethod yX7_street ∈ BIG ∧ Cond.selects (yX7_street).cls yX7_street yX7_street ∈ BIG := ⟨bg_2 156 (by decide +kernel) rfl, bg_2 157 (by decide +kernel) rfl⟩
set_option maxRecDepth 20000 in
theorem mi_X7_told : MI yX7_told cX7_told 2 (some .int) 1 := ⟨bg_3 80 rfl rfl, bg_1 1 (by decide +kernel) rfl, ⟨by decide +kernel, by decide +kernel⟩, by decide +kernel, Nat.le_of_ble_eq_true rfl⟩
theorem mv_X7_told : Cond.instanceMethod yX7_told ∈ BIG ∧ Cond.selects (yX7_told).cls yX7_told yX7_told ∈ BIG := ⟨bg_3 78 (by decide +kernel) rfl, bg_3 79 (by decide +kernel) rfl⟩
set_option maxRecDepth 20000 in
theorem mi_X7_years : MI yX7_years cX7_years 2 (some .int) 1 := ⟨bg_3 93 rfl rfl, bg_1 1 (by decide +kernel) rfl, ⟨by decide +kernel, by decide +kernel⟩, by decide +kernel, Nat.le_of_ble_eq_true rfl⟩
theorem mv_X7_years : Cond.instanceMethod yX7_years ∈ BIG ∧ Cond.selects (yX7_years).cls yX7_years yX7_years ∈ BIG := ⟨bg_3 91 (by decide +kernel) rfl, bg_3 92 (by decide +kernel) rfl⟩
set_option maxRecDepth 20000 in
theorem mi_X7_on : MI yX7_on cX7_on 5 (some .int) 2 := ⟨bg_3 102 rfl rfl, bg_1 1 (by decide +kernel) rfl, ⟨by decide +kernel, by decide +kernel⟩, by decide +kernel, Nat.le_of_ble_eq_true rfl⟩
theorem mv_X7_on : Cond.instanceMethod yX7_on ∈ BIG ∧ Cond.selects (yX7_on).cls yX7_on yX7_on ∈ BIG := ⟨bg_3 100 (by decide +kernel) rfl, bg_3 101 (by decide +kernel) rfl⟩
set_option maxRecDepth 20000 in
theorem mi_X7_when : MI yX7_when cX7_when 3 (some .int) 2 := ⟨bg_3 113 rfl rfl, bg_1 1 (by decide +kernel) rfl, ⟨by decide +kernel, by decide +kernel⟩, by decide +kernel, Nat.le_of_ble_eq_true rfl⟩
theorem mv_X7_when : Cond.instanceMethod yX7_when ∈ BIG ∧ Cond.selects (yX7_when).cls yX7_when yX7_when ∈ BIG := ⟨bg_3 111 (by decide +kernel) rfl, bg_3 112 (by decide +kernel) rfl⟩
set_option maxRecDepth 20000 in
theorem mi_X7_stillBy : MI yX7_stillBy cX7_stillBy 3 (some .int) 1 := ⟨bg_3 117 rfl rfl, bg_1 1 (by decide +kernel) rfl, ⟨by decide +kernel, by decide +kernel⟩, by decide +kernel, Nat.le_of_ble_eq_true rfl⟩
theorem mv_X7_stillBy : Cond.instanceMethod yX7_stillBy ∈ BIG ∧ Cond.selects (yX7_stillBy).cls yX7_stillBy yX7_stillBy ∈ BIG := ⟨bg_3 116 (by decide +kernel) rfl, big_of 9 (by decide +kernel) rfl⟩
set_option maxRecDepth 20000 in
theorem mi_X7_silentBy : MI yX7_silentBy cX7_silentBy 3 (some .int) 1 := ⟨bg_3 121 rfl rfl, bg_1 1 (by decide +kernel) rfl, ⟨by decide +kernel, by decide +kernel⟩, by decide +kernel, Nat.le_of_ble_eq_true rfl⟩
theorem mv_X7_silentBy : Cond.instanceMethod yX7_silentBy ∈ BIG ∧ Cond.selects (yX7_silentBy).cls yX7_silentBy yX7_silentBy ∈ BIG := ⟨bg_3 120 (by decide +kernel) rfl, big_of 10 (by decide +kernel) rfl⟩
set_option maxRecDepth 20000 in
theorem mi_X7_home : MI yX7_home cX7_home 2 (some .int) 1 := ⟨bg_3 125 rfl rfl, bg_1 1 (by decide +kernel) rfl, ⟨by decide +kernel, by decide +kernel⟩, by decide +kernel, Nat.le_of_ble_eq_true rfl⟩
theorem mv_X7_home : Cond.instanceMethod yX7_home ∈ BIG ∧ Cond.selects (yX7_home).cls yX7_home yX7_home ∈ BIG := ⟨bg_3 123 (by decide +kernel) rfl, bg_3 124 (by decide +kernel) rfl⟩
set_option maxRecDepth 20000 in
theorem mi_X7_shared : MI yX7_shared cX7_shared 4 (some .int) 1 := ⟨bg_3 154 rfl rfl, bg_1 1 (by decide +kernel) rfl, ⟨by decide +kernel, by decide +kernel⟩, by decide +kernel, Nat.le_of_ble_eq_true rfl⟩
theorem mv_X7_shared : Cond.instanceMethod yX7_shared ∈ BIG ∧ Cond.selects (yX7_shared).cls yX7_shared yX7_shared ∈ BIG := ⟨bg_3 152 (by decide +kernel) rfl, bg_3 153 (by decide +kernel) rfl⟩
set_option maxRecDepth 20000 in
theorem mi_X7_best : MI yX7_best cX7_best 2 (some .int) 1 := ⟨bg_3 179 rfl rfl, bg_1 1 (by decide +kernel) rfl, ⟨by decide +kernel, by decide +kernel⟩, by decide +kernel, Nat.le_of_ble_eq_true rfl⟩
theorem mv_X7_best : Cond.instanceMethod yX7_best ∈ BIG ∧ Cond.selects (yX7_best).cls yX7_best yX7_best ∈ BIG := ⟨bg_3 177 (by decide +kernel) rfl, bg_3 178 (by decide +kernel) rfl⟩
set_option maxRecDepth 20000 in
theorem mi_X7_fewest : MI yX7_fewest cX7_fewest 3 (some .int) 1 := ⟨bg_3 195 rfl rfl, bg_1 1 (by decide +kernel) rfl, ⟨by decide +kernel, by decide +kernel⟩, by decide +kernel, Nat.le_of_ble_eq_true rfl⟩
theorem mv_X7_fewest : Cond.instanceMethod yX7_fewest ∈ BIG ∧ Cond.selects (yX7_fewest).cls yX7_fewest yX7_fewest ∈ BIG := ⟨bg_3 193 (by decide +kernel) rfl, bg_3 194 (by decide +kernel) rfl⟩
set_option maxRecDepth 20000 in
theorem mi_X7_see : MI yX7_see cX7_see 4 (some .int) 3 := ⟨bg_3 208 rfl rfl, bg_1 1 (by decide +kernel) rfl, ⟨by decide +kernel, by decide +kernel⟩, by decide +kernel, Nat.le_of_ble_eq_true rfl⟩
theorem mv_X7_see : Cond.instanceMethod yX7_see ∈ BIG ∧ Cond.selects (yX7_see).cls yX7_see yX7_see ∈ BIG := ⟨bg_3 206 (by decide +kernel) rfl, bg_3 207 (by decide +kernel) rfl⟩
set_option maxRecDepth 20000 in
theorem mi_X7_louds : MI yX7_louds cX7_louds 3 (some .int) 2 := ⟨bg_3 224 rfl rfl, bg_1 1 (by decide +kernel) rfl, ⟨by decide +kernel, by decide +kernel⟩, by decide +kernel, Nat.le_of_ble_eq_true rfl⟩
theorem mv_X7_louds : Cond.instanceMethod yX7_louds ∈ BIG ∧ Cond.selects (yX7_louds).cls yX7_louds yX7_louds ∈ BIG := ⟨bg_3 222 (by decide +kernel) rfl, bg_3 223 (by decide +kernel) rfl⟩
set_option maxRecDepth 20000 in
theorem mi_X7_can : MI yX7_can cX7_can 3 (some .int) 2 := ⟨bg_3 236 rfl rfl, bg_1 1 (by decide +kernel) rfl, ⟨by decide +kernel, by decide +kernel⟩, by decide +kernel, Nat.le_of_ble_eq_true rfl⟩
theorem mv_X7_can : Cond.instanceMethod yX7_can ∈ BIG ∧ Cond.selects (yX7_can).cls yX7_can yX7_can ∈ BIG := ⟨bg_3 234 (by decide +kernel) rfl, bg_3 235 (by decide +kernel) rfl⟩
set_option maxRecDepth 20000 in
theorem mi_X7_fitting : MI yX7_fitting cX7_fitting 8 (some .int) 4 := ⟨bg_3 228 rfl rfl, bg_1 1 (by decide +kernel) rfl, ⟨by decide +kernel, by decide +kernel⟩, by decide +kernel, Nat.le_of_ble_eq_true rfl⟩
theorem mv_X7_fitting : Cond.instanceMethod yX7_fitting ∈ BIG ∧ Cond.selects (yX7_fitting).cls yX7_fitting yX7_fitting ∈ BIG := ⟨bg_3 227 (by decide +kernel) rfl, big_of 20 (by decide +kernel) rfl⟩
set_option maxRecDepth 20000 in
theorem mi_X7_where : MI yX7_where cX7_where 4 (some .int) 1 := ⟨bg_4 0 rfl rfl, bg_1 1 (by decide +kernel) rfl, ⟨by decide +kernel, by decide +kernel⟩, by decide +kernel, Nat.le_of_ble_eq_true rfl⟩
theorem mv_X7_where : Cond.instanceMethod yX7_where ∈ BIG ∧ Cond.selects (yX7_where).cls yX7_where yX7_where ∈ BIG := ⟨bg_3 238 (by decide +kernel) rfl, bg_3 239 (by decide +kernel) rfl⟩
set_option maxRecDepth 20000 in
theorem mi_X7_isAsSeen : MI yX7_isAsSeen cX7_isAsSeen 5 (some .boolean) 0 := ⟨bg_3 232 rfl rfl, bg_1 1 (by decide +kernel) rfl, ⟨by decide +kernel, by decide +kernel⟩, by decide +kernel, Nat.le_of_ble_eq_true rfl⟩
theorem mv_X7_isAsSeen : Cond.instanceMethod yX7_isAsSeen ∈ BIG ∧ Cond.selects (yX7_isAsSeen).cls yX7_isAsSeen yX7_isAsSeen ∈ BIG := ⟨bg_3 231 (by decide +kernel) rfl, big_of 21 (by decide +kernel) rfl⟩
set_option maxRecDepth 20000 in
theorem mi_X7_odds : MI yX7_odds cX7_odds 3 (some .long) 2 := ⟨bg_4 4 rfl rfl, bg_1 1 (by decide +kernel) rfl, ⟨by decide +kernel, by decide +kernel⟩, by decide +kernel, Nat.le_of_ble_eq_true rfl⟩
theorem mv_X7_odds : Cond.instanceMethod yX7_odds ∈ BIG ∧ Cond.selects (yX7_odds).cls yX7_odds yX7_odds ∈ BIG := ⟨bg_4 2 (by decide +kernel) rfl, bg_4 3 (by decide +kernel) rfl⟩
set_option maxRecDepth 20000 in
theorem mi_X7_mean : MI yX7_mean cX7_mean 5 (some .long) 2 := ⟨bg_4 19 rfl rfl, bg_1 1 (by decide +kernel) rfl, ⟨by decide +kernel, by decide +kernel⟩, by decide +kernel, Nat.le_of_ble_eq_true rfl⟩
theorem mv_X7_mean : Cond.instanceMethod yX7_mean ∈ BIG ∧ Cond.selects (yX7_mean).cls yX7_mean yX7_mean ∈ BIG := ⟨bg_4 17 (by decide +kernel) rfl, bg_4 18 (by decide +kernel) rfl⟩
set_option maxRecDepth 20000 in
theorem mi_X7_ofFraction : MI yX7_ofFraction cX7_ofFraction 4 (some .long) 3 := ⟨bg_4 12 rfl rfl, bg_1 1 (by decide +kernel) rfl, ⟨by decide +kernel, by decide +kernel⟩, by decide +kernel, Nat.le_of_ble_eq_true rfl⟩
theorem ms_X7_ofFraction : Cond.static yX7_ofFraction ∈ BIG := bg_4 11 (by decide +kernel) rfl
set_option maxRecDepth 20000 in
theorem mi_X7_commonDivisor : MI yX7_commonDivisor cX7_commonDivisor 4 (some .int) 2 := ⟨bg_4 15 rfl rfl, bg_1 1 (by decide +kernel) rfl, ⟨by decide +kernel, by decide +kernel⟩, by decide +kernel, Nat.le_of_ble_eq_true rfl⟩
theorem ms_X7_commonDivisor : Cond.static yX7_commonDivisor ∈ BIG := bg_4 14 (by decide +kernel) rfl
set_option maxRecDepth 20000 in
theorem mi_X7_plan : MI yX7_plan cX7_plan 3 (some .int) 2 := ⟨bg_4 23 rfl rfl, bg_1 1 (by decide +kernel) rfl, ⟨by decide +kernel, by decide +kernel⟩, by decide +kernel, Nat.le_of_ble_eq_true rfl⟩
theorem mv_X7_plan : Cond.instanceMethod yX7_plan ∈ BIG ∧ Cond.selects (yX7_plan).cls yX7_plan yX7_plan ∈ BIG := ⟨bg_4 21 (by decide +kernel) rfl, bg_4 22 (by decide +kernel) rfl⟩
set_option maxRecDepth 20000 in
theorem mi_X7_ends : MI yX7_ends cX7_ends 3 (some .int) 1 := ⟨bg_4 27 rfl rfl, bg_1 1 (by decide +kernel) rfl, ⟨by decide +kernel, by decide +kernel⟩, by decide +kernel, Nat.le_of_ble_eq_true rfl⟩
theorem mv_X7_ends : Cond.instanceMethod yX7_ends ∈ BIG ∧ Cond.selects (yX7_ends).cls yX7_ends yX7_ends ∈ BIG := ⟨bg_4 25 (by decide +kernel) rfl, bg_4 26 (by decide +kernel) rfl⟩
set_option maxRecDepth 20000 in
theorem mi_X7_book : MI yX7_book cX7_book 3 (some .int) 2 := ⟨bg_4 43 rfl rfl, bg_1 1 (by decide +kernel) rfl, ⟨by decide +kernel, by decide +kernel⟩, by decide +kernel, Nat.le_of_ble_eq_true rfl⟩
theorem mv_X7_book : Cond.instanceMethod yX7_book ∈ BIG ∧ Cond.selects (yX7_book).cls yX7_book yX7_book ∈ BIG := ⟨bg_4 41 (by decide +kernel) rfl, bg_4 42 (by decide +kernel) rfl⟩
set_option maxRecDepth 20000 in
theorem mi_X7_looked : MI yX7_looked cX7_looked 3 (some .int) 0 := ⟨bg_4 47 rfl rfl, bg_1 1 (by decide +kernel) rfl, ⟨by decide +kernel, by decide +kernel⟩, by decide +kernel, Nat.le_of_ble_eq_true rfl⟩
theorem mv_X7_looked : Cond.instanceMethod yX7_looked ∈ BIG ∧ Cond.selects (yX7_looked).cls yX7_looked yX7_looked ∈ BIG := ⟨bg_4 45 (by decide +kernel) rfl, bg_4 46 (by decide +kernel) rfl⟩
set_option maxRecDepth 20000 in
theorem mi_X7_judge : MI yX7_judge cX7_judge 5 (some .int) 2 := ⟨bg_4 51 rfl rfl, bg_1 1 (by decide +kernel) rfl, ⟨by decide +kernel, by decide +kernel⟩, by decide +kernel, Nat.le_of_ble_eq_true rfl⟩
theorem mv_X7_judge : Cond.instanceMethod yX7_judge ∈ BIG ∧ Cond.selects (yX7_judge).cls yX7_judge yX7_judge ∈ BIG := ⟨bg_4 49 (by decide +kernel) rfl, bg_4 50 (by decide +kernel) rfl⟩
set_option maxRecDepth 20000 in
theorem mi_X7_image : MI yX7_image cX7_image 1 (some .int) 0 := ⟨bg_4 58 rfl rfl, bg_1 1 (by decide +kernel) rfl, ⟨by decide +kernel, by decide +kernel⟩, by decide +kernel, Nat.le_of_ble_eq_true rfl⟩
theorem mv_X7_image : Cond.instanceMethod yX7_image ∈ BIG ∧ Cond.selects (yX7_image).cls yX7_image yX7_image ∈ BIG := ⟨bg_4 56 (by decide +kernel) rfl, bg_4 57 (by decide +kernel) rfl⟩
set_option maxRecDepth 20000 in
theorem mi_X7_undo : MI yX7_undo cX7_undo 1 (some .int) 0 := ⟨bg_4 72 rfl rfl, bg_1 1 (by decide +kernel) rfl, ⟨by decide +kernel, by decide +kernel⟩, by decide +kernel, Nat.le_of_ble_eq_true rfl⟩
theorem mv_X7_undo : Cond.instanceMethod yX7_undo ∈ BIG ∧ Cond.selects (yX7_undo).cls yX7_undo yX7_undo ∈ BIG := ⟨bg_4 70 (by decide +kernel) rfl, bg_4 71 (by decide +kernel) rfl⟩
set_option maxRecDepth 20000 in
theorem mi_X7_act : MI yX7_act cX7_act 4 (some .int) 3 := ⟨bg_4 76 rfl rfl, bg_1 1 (by decide +kernel) rfl, ⟨by decide +kernel, by decide +kernel⟩, by decide +kernel, Nat.le_of_ble_eq_true rfl⟩
theorem mv_X7_act : Cond.instanceMethod yX7_act ∈ BIG ∧ Cond.selects (yX7_act).cls yX7_act yX7_act ∈ BIG := ⟨bg_4 74 (by decide +kernel) rfl, bg_4 75 (by decide +kernel) rfl⟩
set_option maxRecDepth 20000 in
theorem mi_X7_trace : MI yX7_trace cX7_trace 2 (some .int) 1 := ⟨bg_4 100 rfl rfl, bg_1 1 (by decide +kernel) rfl, ⟨by decide +kernel, by decide +kernel⟩, by decide +kernel, Nat.le_of_ble_eq_true rfl⟩
theorem mv_X7_trace : Cond.instanceMethod yX7_trace ∈ BIG ∧ Cond.selects (yX7_trace).cls yX7_trace yX7_trace ∈ BIG := ⟨bg_4 98 (by decide +kernel) rfl, bg_4 99 (by decide +kernel) rfl⟩
set_option maxRecDepth 20000 in
theorem mi_X7_taken : MI yX7_taken cX7_taken 6 (some .int) 2 := ⟨bg_4 104 rfl rfl, bg_1 1 (by decide +kernel) rfl, ⟨by decide +kernel, by decide +kernel⟩, by decide +kernel, Nat.le_of_ble_eq_true rfl⟩
theorem mv_X7_taken : Cond.instanceMethod yX7_taken ∈ BIG ∧ Cond.selects (yX7_taken).cls yX7_taken yX7_taken ∈ BIG := ⟨bg_4 102 (by decide +kernel) rfl, bg_4 103 (by decide +kernel) rfl⟩
set_option maxRecDepth 20000 in
theorem mi_X7_count : MI yX7_count cX7_count 2 (some .int) 1 := ⟨bg_4 110 rfl rfl, bg_1 1 (by decide +kernel) rfl, ⟨by decide +kernel, by decide +kernel⟩, by decide +kernel, Nat.le_of_ble_eq_true rfl⟩
theorem mv_X7_count : Cond.instanceMethod yX7_count ∈ BIG ∧ Cond.selects (yX7_count).cls yX7_count yX7_count ∈ BIG := ⟨bg_4 108 (by decide +kernel) rfl, bg_4 109 (by decide +kernel) rfl⟩
set_option maxRecDepth 20000 in
theorem mi_X7_tape : MI yX7_tape cX7_tape 4 (some .int) 3 := ⟨bg_4 114 rfl rfl, bg_1 1 (by decide +kernel) rfl, ⟨by decide +kernel, by decide +kernel⟩, by decide +kernel, Nat.le_of_ble_eq_true rfl⟩
theorem mv_X7_tape : Cond.instanceMethod yX7_tape ∈ BIG ∧ Cond.selects (yX7_tape).cls yX7_tape yX7_tape ∈ BIG := ⟨bg_4 112 (by decide +kernel) rfl, bg_4 113 (by decide +kernel) rfl⟩
set_option maxRecDepth 20000 in
theorem mi_X7_item : MI yX7_item cX7_item 5 (some .int) 3 := ⟨bg_4 122 rfl rfl, bg_1 1 (by decide +kernel) rfl, ⟨by decide +kernel, by decide +kernel⟩, by decide +kernel, Nat.le_of_ble_eq_true rfl⟩
theorem mv_X7_item : Cond.instanceMethod yX7_item ∈ BIG ∧ Cond.selects (yX7_item).cls yX7_item yX7_item ∈ BIG := ⟨bg_4 120 (by decide +kernel) rfl, bg_4 121 (by decide +kernel) rfl⟩
set_option maxRecDepth 20000 in
theorem mi_X7_read : MI yX7_read cX7_read 3 (some .long) 2 := ⟨bg_4 134 rfl rfl, bg_1 1 (by decide +kernel) rfl, ⟨by decide +kernel, by decide +kernel⟩, by decide +kernel, Nat.le_of_ble_eq_true rfl⟩
theorem mv_X7_read : Cond.instanceMethod yX7_read ∈ BIG ∧ Cond.selects (yX7_read).cls yX7_read yX7_read ∈ BIG := ⟨bg_4 132 (by decide +kernel) rfl, bg_4 133 (by decide +kernel) rfl⟩
set_option maxRecDepth 20000 in
theorem mi_X7_shift : MI yX7_shift cX7_shift 8 (some .int) 5 := ⟨bg_4 138 rfl rfl, bg_1 1 (by decide +kernel) rfl, ⟨by decide +kernel, by decide +kernel⟩, by decide +kernel, Nat.le_of_ble_eq_true rfl⟩
theorem mv_X7_shift : Cond.instanceMethod yX7_shift ∈ BIG ∧ Cond.selects (yX7_shift).cls yX7_shift yX7_shift ∈ BIG := ⟨bg_4 136 (by decide +kernel) rfl, bg_4 137 (by decide +kernel) rfl⟩
set_option maxRecDepth 20000 in
theorem mi_X7_isIn : MI yX7_isIn cX7_isIn 2 (some .boolean) 2 := ⟨bg_2 73 rfl rfl, bg_1 1 (by decide +kernel) rfl, ⟨by decide +kernel, by decide +kernel⟩, by decide +kernel, Nat.le_of_ble_eq_true rfl⟩
theorem ms_X7_isIn : Cond.static yX7_isIn ∈ BIG := bg_2 72 (by decide +kernel) rfl
set_option maxRecDepth 20000 in
theorem mi_X7_isHouse : MI yX7_isHouse cX7_isHouse 1 (some .boolean) 1 := ⟨bg_2 76 rfl rfl, bg_1 1 (by decide +kernel) rfl, ⟨by decide +kernel, by decide +kernel⟩, by decide +kernel, Nat.le_of_ble_eq_true rfl⟩
theorem ms_X7_isHouse : Cond.static yX7_isHouse ∈ BIG := bg_2 75 (by decide +kernel) rfl
set_option maxRecDepth 20000 in
theorem mi_X7_isTape : MI yX7_isTape cX7_isTape 1 (some .boolean) 1 := ⟨bg_4 54 rfl rfl, bg_1 1 (by decide +kernel) rfl, ⟨by decide +kernel, by decide +kernel⟩, by decide +kernel, Nat.le_of_ble_eq_true rfl⟩
theorem ms_X7_isTape : Cond.static yX7_isTape ∈ BIG := bg_4 53 (by decide +kernel) rfl
set_option maxRecDepth 20000 in
theorem mi_X8_init : MI yX8_init cX8_init 1 none 0 := ⟨bg_4 148 rfl rfl, bg_1 9 (by decide +kernel) rfl, ⟨by decide +kernel, by decide +kernel⟩, by decide +kernel, Nat.le_of_ble_eq_true rfl⟩
theorem mv_X8_init : Cond.instanceMethod yX8_init ∈ BIG := bg_4 147 (by decide +kernel) rfl
set_option maxRecDepth 20000 in
theorem mi_X8_in : MI yX8_in cX8_in 4 (some .boolean) 3 := ⟨bg_5 122 rfl rfl, bg_1 9 (by decide +kernel) rfl, ⟨by decide +kernel, by decide +kernel⟩, by decide +kernel, Nat.le_of_ble_eq_true rfl⟩
theorem mv_X8_in : Cond.instanceMethod yX8_in ∈ BIG ∧ Cond.selects (yX8_in).cls yX8_in yX8_in ∈ BIG := ⟨bg_5 121 (by decide +kernel) rfl, big_of 26 (by decide +kernel) rfl⟩
set_option maxRecDepth 20000 in
theorem mi_X8_least0 : MI yX8_least0 cX8_least0 2 (some .int) 1 := ⟨bg_5 186 rfl rfl, bg_1 9 (by decide +kernel) rfl, ⟨by decide +kernel, by decide +kernel⟩, by decide +kernel, Nat.le_of_ble_eq_true rfl⟩
theorem mv_X8_least0 : Cond.instanceMethod yX8_least0 ∈ BIG ∧ Cond.selects (yX8_least0).cls yX8_least0 yX8_least0 ∈ BIG := ⟨bg_5 185 (by decide +kernel) rfl, big_of 39 (by decide +kernel) rfl⟩
set_option maxRecDepth 20000 in
theorem mi_X8_farOf : MI yX8_farOf cX8_farOf 3 (some .int) 2 := ⟨bg_5 154 rfl rfl, bg_1 9 (by decide +kernel) rfl, ⟨by decide +kernel, by decide +kernel⟩, by decide +kernel, Nat.le_of_ble_eq_true rfl⟩
theorem mv_X8_farOf : Cond.instanceMethod yX8_farOf ∈ BIG ∧ Cond.selects (yX8_farOf).cls yX8_farOf yX8_farOf ∈ BIG := ⟨bg_5 153 (by decide +kernel) rfl, big_of 31 (by decide +kernel) rfl⟩
set_option maxRecDepth 20000 in
theorem mi_X8_isSound : MI yX8_isSound cX8_isSound 2 (some .boolean) 1 := ⟨bg_5 138 rfl rfl, bg_1 9 (by decide +kernel) rfl, ⟨by decide +kernel, by decide +kernel⟩, by decide +kernel, Nat.le_of_ble_eq_true rfl⟩
theorem mv_X8_isSound : Cond.instanceMethod yX8_isSound ∈ BIG ∧ Cond.selects (yX8_isSound).cls yX8_isSound yX8_isSound ∈ BIG := ⟨bg_5 137 (by decide +kernel) rfl, big_of 29 (by decide +kernel) rfl⟩
set_option maxRecDepth 20000 in
theorem mi_X8_isHouse : MI yX8_isHouse cX8_isHouse 2 (some .boolean) 1 := ⟨bg_5 126 rfl rfl, bg_1 9 (by decide +kernel) rfl, ⟨by decide +kernel, by decide +kernel⟩, by decide +kernel, Nat.le_of_ble_eq_true rfl⟩
theorem mv_X8_isHouse : Cond.instanceMethod yX8_isHouse ∈ BIG ∧ Cond.selects (yX8_isHouse).cls yX8_isHouse yX8_isHouse ∈ BIG := ⟨bg_5 125 (by decide +kernel) rfl, big_of 27 (by decide +kernel) rfl⟩
set_option maxRecDepth 20000 in
theorem mi_X8_isLoud : MI yX8_isLoud cX8_isLoud 2 (some .boolean) 1 := ⟨bg_5 130 rfl rfl, bg_1 9 (by decide +kernel) rfl, ⟨by decide +kernel, by decide +kernel⟩, by decide +kernel, Nat.le_of_ble_eq_true rfl⟩
theorem mv_X8_isLoud : Cond.instanceMethod yX8_isLoud ∈ BIG ∧ Cond.selects (yX8_isLoud).cls yX8_isLoud yX8_isLoud ∈ BIG := ⟨bg_5 129 (by decide +kernel) rfl, big_of 28 (by decide +kernel) rfl⟩
set_option maxRecDepth 20000 in
theorem mi_X8_isYears : MI yX8_isYears cX8_isYears 2 (some .boolean) 1 := ⟨bg_6 78 rfl rfl, bg_1 9 (by decide +kernel) rfl, ⟨by decide +kernel, by decide +kernel⟩, by decide +kernel, Nat.le_of_ble_eq_true rfl⟩
theorem mv_X8_isYears : Cond.instanceMethod yX8_isYears ∈ BIG ∧ Cond.selects (yX8_isYears).cls yX8_isYears yX8_isYears ∈ BIG := ⟨bg_6 77 (by decide +kernel) rfl, big_of 65 (by decide +kernel) rfl⟩
set_option maxRecDepth 20000 in
theorem mi_X8_isLost : MI yX8_isLost cX8_isLost 2 (some .boolean) 1 := ⟨bg_5 150 rfl rfl, bg_1 9 (by decide +kernel) rfl, ⟨by decide +kernel, by decide +kernel⟩, by decide +kernel, Nat.le_of_ble_eq_true rfl⟩
theorem mv_X8_isLost : Cond.instanceMethod yX8_isLost ∈ BIG ∧ Cond.selects (yX8_isLost).cls yX8_isLost yX8_isLost ∈ BIG := ⟨bg_5 149 (by decide +kernel) rfl, big_of 30 (by decide +kernel) rfl⟩
set_option maxRecDepth 20000 in
theorem mi_X8_sound : MI yX8_sound cX8_sound 6 (some .int) 4 := ⟨bg_5 118 rfl rfl, bg_1 9 (by decide +kernel) rfl, ⟨by decide +kernel, by decide +kernel⟩, by decide +kernel, Nat.le_of_ble_eq_true rfl⟩
theorem mv_X8_sound : Cond.instanceMethod yX8_sound ∈ BIG ∧ Cond.selects (yX8_sound).cls yX8_sound yX8_sound ∈ BIG := ⟨bg_5 116 (by decide +kernel) rfl, bg_5 117 (by decide +kernel) rfl⟩
set_option maxRecDepth 20000 in
theorem mi_X8_set : MI yX8_set cX8_set 4 (some .int) 2 := ⟨bg_5 134 rfl rfl, bg_1 9 (by decide +kernel) rfl, ⟨by decide +kernel, by decide +kernel⟩, by decide +kernel, Nat.le_of_ble_eq_true rfl⟩
theorem mv_X8_set : Cond.instanceMethod yX8_set ∈ BIG ∧ Cond.selects (yX8_set).cls yX8_set yX8_set ∈ BIG := ⟨bg_5 132 (by decide +kernel) rfl, bg_5 133 (by decide +kernel) rfl⟩
set_option maxRecDepth 20000 in
theorem mi_X8_row : MI yX8_row cX8_row 5 (some .int) 3 := ⟨bg_5 142 rfl rfl, bg_1 9 (by decide +kernel) rfl, ⟨by decide +kernel, by decide +kernel⟩, by decide +kernel, Nat.le_of_ble_eq_true rfl⟩
theorem mv_X8_row : Cond.instanceMethod yX8_row ∈ BIG ∧ Cond.selects (yX8_row).cls yX8_row yX8_row ∈ BIG := ⟨bg_5 140 (by decide +kernel) rfl, bg_5 141 (by decide +kernel) rfl⟩
set_option maxRecDepth 20000 in
theorem mi_X8_pass : MI yX8_pass cX8_pass 3 (some .int) 2 := ⟨bg_5 146 rfl rfl, bg_1 9 (by decide +kernel) rfl, ⟨by decide +kernel, by decide +kernel⟩, by decide +kernel, Nat.le_of_ble_eq_true rfl⟩
theorem mv_X8_pass : Cond.instanceMethod yX8_pass ∈ BIG ∧ Cond.selects (yX8_pass).cls yX8_pass yX8_pass ∈ BIG := ⟨bg_5 144 (by decide +kernel) rfl, bg_5 145 (by decide +kernel) rfl⟩
set_option maxRecDepth 20000 in
theorem mi_X8_lose : MI yX8_lose cX8_lose 3 (some .int) 1 := ⟨bg_5 202 rfl rfl, bg_1 9 (by decide +kernel) rfl, ⟨by decide +kernel, by decide +kernel⟩, by decide +kernel, Nat.le_of_ble_eq_true rfl⟩
theorem mv_X8_lose : Cond.instanceMethod yX8_lose ∈ BIG ∧ Cond.selects (yX8_lose).cls yX8_lose yX8_lose ∈ BIG := ⟨bg_5 200 (by decide +kernel) rfl, bg_5 201 (by decide +kernel) rfl⟩
set_option maxRecDepth 20000 in
theorem mi_X8_find : MI yX8_find cX8_find 3 (some .int) 2 := ⟨bg_5 206 rfl rfl, bg_1 9 (by decide +kernel) rfl, ⟨by decide +kernel, by decide +kernel⟩, by decide +kernel, Nat.le_of_ble_eq_true rfl⟩
theorem mv_X8_find : Cond.instanceMethod yX8_find ∈ BIG ∧ Cond.selects (yX8_find).cls yX8_find yX8_find ∈ BIG := ⟨bg_5 204 (by decide +kernel) rfl, bg_5 205 (by decide +kernel) rfl⟩
set_option maxRecDepth 20000 in
theorem mi_X8_feed : MI yX8_feed cX8_feed 2 (some .int) 1 := ⟨bg_5 210 rfl rfl, bg_1 9 (by decide +kernel) rfl, ⟨by decide +kernel, by decide +kernel⟩, by decide +kernel, Nat.le_of_ble_eq_true rfl⟩
theorem mv_X8_feed : Cond.instanceMethod yX8_feed ∈ BIG ∧ Cond.selects (yX8_feed).cls yX8_feed yX8_feed ∈ BIG := ⟨bg_5 208 (by decide +kernel) rfl, bg_5 209 (by decide +kernel) rfl⟩
set_option maxRecDepth 20000 in
theorem mi_X8_next : MI yX8_next cX8_next 1 (some .int) 0 := ⟨bg_5 230 rfl rfl, bg_1 9 (by decide +kernel) rfl, ⟨by decide +kernel, by decide +kernel⟩, by decide +kernel, Nat.le_of_ble_eq_true rfl⟩
theorem mv_X8_next : Cond.instanceMethod yX8_next ∈ BIG ∧ Cond.selects (yX8_next).cls yX8_next yX8_next ∈ BIG := ⟨bg_5 229 (by decide +kernel) rfl, big_of 46 (by decide +kernel) rfl⟩
set_option maxRecDepth 20000 in
theorem mi_X8_second : MI yX8_second cX8_second 1 (some .int) 0 := ⟨bg_6 2 rfl rfl, bg_1 9 (by decide +kernel) rfl, ⟨by decide +kernel, by decide +kernel⟩, by decide +kernel, Nat.le_of_ble_eq_true rfl⟩
theorem mv_X8_second : Cond.instanceMethod yX8_second ∈ BIG ∧ Cond.selects (yX8_second).cls yX8_second yX8_second ∈ BIG := ⟨bg_6 1 (by decide +kernel) rfl, big_of 49 (by decide +kernel) rfl⟩
set_option maxRecDepth 20000 in
theorem mi_X8_takes : MI yX8_takes cX8_takes 2 (some .boolean) 1 := ⟨bg_5 238 rfl rfl, bg_1 9 (by decide +kernel) rfl, ⟨by decide +kernel, by decide +kernel⟩, by decide +kernel, Nat.le_of_ble_eq_true rfl⟩
theorem mv_X8_takes : Cond.instanceMethod yX8_takes ∈ BIG ∧ Cond.selects (yX8_takes).cls yX8_takes yX8_takes ∈ BIG := ⟨bg_5 237 (by decide +kernel) rfl, big_of 48 (by decide +kernel) rfl⟩
set_option maxRecDepth 20000 in
theorem mi_X8_takesWord : MI yX8_takesWord cX8_takesWord 4 (some .boolean) 2 := ⟨bg_5 234 rfl rfl, bg_1 9 (by decide +kernel) rfl, ⟨by decide +kernel, by decide +kernel⟩, by decide +kernel, Nat.le_of_ble_eq_true rfl⟩
theorem mv_X8_takesWord : Cond.instanceMethod yX8_takesWord ∈ BIG ∧ Cond.selects (yX8_takesWord).cls yX8_takesWord yX8_takesWord ∈ BIG := ⟨bg_5 233 (by decide +kernel) rfl, big_of 47 (by decide +kernel) rfl⟩
set_option maxRecDepth 20000 in
theorem mi_X8_isDigit : MI yX8_isDigit cX8_isDigit 1 (some .boolean) 0 := ⟨bg_6 10 rfl rfl, bg_1 9 (by decide +kernel) rfl, ⟨by decide +kernel, by decide +kernel⟩, by decide +kernel, Nat.le_of_ble_eq_true rfl⟩
theorem mv_X8_isDigit : Cond.instanceMethod yX8_isDigit ∈ BIG ∧ Cond.selects (yX8_isDigit).cls yX8_isDigit yX8_isDigit ∈ BIG := ⟨bg_6 9 (by decide +kernel) rfl, big_of 51 (by decide +kernel) rfl⟩
set_option maxRecDepth 20000 in
theorem mi_X8_takesNumber : MI yX8_takesNumber cX8_takesNumber 2 (some .boolean) 0 := ⟨bg_6 6 rfl rfl, bg_1 9 (by decide +kernel) rfl, ⟨by decide +kernel, by decide +kernel⟩, by decide +kernel, Nat.le_of_ble_eq_true rfl⟩
theorem mv_X8_takesNumber : Cond.instanceMethod yX8_takesNumber ∈ BIG ∧ Cond.selects (yX8_takesNumber).cls yX8_takesNumber yX8_takesNumber ∈ BIG := ⟨bg_6 5 (by decide +kernel) rfl, big_of 50 (by decide +kernel) rfl⟩
set_option maxRecDepth 20000 in
theorem mi_X8_emits : MI yX8_emits cX8_emits 2 none 1 := ⟨bg_6 26 rfl rfl, bg_1 9 (by decide +kernel) rfl, ⟨by decide +kernel, by decide +kernel⟩, by decide +kernel, Nat.le_of_ble_eq_true rfl⟩
theorem mv_X8_emits : Cond.instanceMethod yX8_emits ∈ BIG ∧ Cond.selects (yX8_emits).cls yX8_emits yX8_emits ∈ BIG := ⟨bg_6 25 (by decide +kernel) rfl, big_of 55 (by decide +kernel) rfl⟩
set_option maxRecDepth 20000 in
theorem mi_X8_whole : MI yX8_whole cX8_whole 1 none 0 := ⟨bg_6 30 rfl rfl, bg_1 9 (by decide +kernel) rfl, ⟨by decide +kernel, by decide +kernel⟩, by decide +kernel, Nat.le_of_ble_eq_true rfl⟩
theorem mv_X8_whole : Cond.instanceMethod yX8_whole ∈ BIG ∧ Cond.selects (yX8_whole).cls yX8_whole yX8_whole ∈ BIG := ⟨bg_6 29 (by decide +kernel) rfl, big_of 56 (by decide +kernel) rfl⟩
set_option maxRecDepth 20000 in
theorem mi_X8_settle : MI yX8_settle cX8_settle 2 none 1 := ⟨bg_6 34 rfl rfl, bg_1 9 (by decide +kernel) rfl, ⟨by decide +kernel, by decide +kernel⟩, by decide +kernel, Nat.le_of_ble_eq_true rfl⟩
theorem mv_X8_settle : Cond.instanceMethod yX8_settle ∈ BIG ∧ Cond.selects (yX8_settle).cls yX8_settle yX8_settle ∈ BIG := ⟨bg_6 33 (by decide +kernel) rfl, big_of 57 (by decide +kernel) rfl⟩
set_option maxRecDepth 20000 in
theorem mi_X8_place : MI yX8_place cX8_place 2 (some .int) 1 := ⟨bg_6 22 rfl rfl, bg_1 9 (by decide +kernel) rfl, ⟨by decide +kernel, by decide +kernel⟩, by decide +kernel, Nat.le_of_ble_eq_true rfl⟩
theorem mv_X8_place : Cond.instanceMethod yX8_place ∈ BIG ∧ Cond.selects (yX8_place).cls yX8_place yX8_place ∈ BIG := ⟨bg_6 21 (by decide +kernel) rfl, big_of 54 (by decide +kernel) rfl⟩
set_option maxRecDepth 20000 in
theorem mi_X8_takesTest : MI yX8_takesTest cX8_takesTest 3 (some .boolean) 0 := ⟨bg_6 18 rfl rfl, bg_1 9 (by decide +kernel) rfl, ⟨by decide +kernel, by decide +kernel⟩, by decide +kernel, Nat.le_of_ble_eq_true rfl⟩
theorem mv_X8_takesTest : Cond.instanceMethod yX8_takesTest ∈ BIG ∧ Cond.selects (yX8_takesTest).cls yX8_takesTest yX8_takesTest ∈ BIG := ⟨bg_6 17 (by decide +kernel) rfl, big_of 53 (by decide +kernel) rfl⟩
set_option maxRecDepth 20000 in
theorem mi_X8_takesE : MI yX8_takesE cX8_takesE 4 (some .boolean) 1 := ⟨bg_6 14 rfl rfl, bg_1 9 (by decide +kernel) rfl, ⟨by decide +kernel, by decide +kernel⟩, by decide +kernel, Nat.le_of_ble_eq_true rfl⟩
theorem mv_X8_takesE : Cond.instanceMethod yX8_takesE ∈ BIG ∧ Cond.selects (yX8_takesE).cls yX8_takesE yX8_takesE ∈ BIG := ⟨bg_6 13 (by decide +kernel) rfl, big_of 52 (by decide +kernel) rfl⟩
set_option maxRecDepth 20000 in
theorem mi_X8_takesHead : MI yX8_takesHead cX8_takesHead 2 (some .boolean) 1 := ⟨bg_5 226 rfl rfl, bg_1 9 (by decide +kernel) rfl, ⟨by decide +kernel, by decide +kernel⟩, by decide +kernel, Nat.le_of_ble_eq_true rfl⟩
theorem mv_X8_takesHead : Cond.instanceMethod yX8_takesHead ∈ BIG ∧ Cond.selects (yX8_takesHead).cls yX8_takesHead yX8_takesHead ∈ BIG := ⟨bg_5 225 (by decide +kernel) rfl, big_of 45 (by decide +kernel) rfl⟩
set_option maxRecDepth 20000 in
theorem mi_X8_takesClause : MI yX8_takesClause cX8_takesClause 2 (some .boolean) 1 := ⟨bg_5 222 rfl rfl, bg_1 9 (by decide +kernel) rfl, ⟨by decide +kernel, by decide +kernel⟩, by decide +kernel, Nat.le_of_ble_eq_true rfl⟩
theorem mv_X8_takesClause : Cond.instanceMethod yX8_takesClause ∈ BIG ∧ Cond.selects (yX8_takesClause).cls yX8_takesClause yX8_takesClause ∈ BIG := ⟨bg_5 221 (by decide +kernel) rfl, big_of 44 (by decide +kernel) rfl⟩
set_option maxRecDepth 20000 in
theorem mi_X8_goesText : MI yX8_goesText cX8_goesText 3 (some .boolean) 1 := ⟨bg_5 218 rfl rfl, bg_1 9 (by decide +kernel) rfl, ⟨by decide +kernel, by decide +kernel⟩, by decide +kernel, Nat.le_of_ble_eq_true rfl⟩
theorem mv_X8_goesText : Cond.instanceMethod yX8_goesText ∈ BIG ∧ Cond.selects (yX8_goesText).cls yX8_goesText yX8_goesText ∈ BIG := ⟨bg_5 217 (by decide +kernel) rfl, big_of 43 (by decide +kernel) rfl⟩
set_option maxRecDepth 20000 in
theorem mi_X8_street : MI yX8_street cX8_street 2 (some .int) 0 := ⟨bg_5 214 rfl rfl, bg_1 9 (by decide +kernel) rfl, ⟨by decide +kernel, by decide +kernel⟩, by decide +kernel, Nat.le_of_ble_eq_true rfl⟩
theorem mv_X8_street : Cond.instanceMethod yX8_street ∈ BIG ∧ Cond.selects (yX8_street).cls yX8_street yX8_street ∈ BIG := ⟨bg_5 212 (by decide +kernel) rfl, bg_5 213 (by decide +kernel) rfl⟩
set_option maxRecDepth 20000 in
theorem mi_X8_begin : MI yX8_begin cX8_begin 1 (some .int) 0 := ⟨bg_5 170 rfl rfl, bg_1 9 (by decide +kernel) rfl, ⟨by decide +kernel, by decide +kernel⟩, by decide +kernel, Nat.le_of_ble_eq_true rfl⟩
theorem mv_X8_begin : Cond.instanceMethod yX8_begin ∈ BIG ∧ Cond.selects (yX8_begin).cls yX8_begin yX8_begin ∈ BIG := ⟨bg_5 169 (by decide +kernel) rfl, big_of 35 (by decide +kernel) rfl⟩
set_option maxRecDepth 20000 in
theorem mi_X8_behind : MI yX8_behind cX8_behind 1 (some .int) 0 := ⟨bg_5 174 rfl rfl, bg_1 9 (by decide +kernel) rfl, ⟨by decide +kernel, by decide +kernel⟩, by decide +kernel, Nat.le_of_ble_eq_true rfl⟩
theorem mv_X8_behind : Cond.instanceMethod yX8_behind ∈ BIG ∧ Cond.selects (yX8_behind).cls yX8_behind yX8_behind ∈ BIG := ⟨bg_5 173 (by decide +kernel) rfl, big_of 36 (by decide +kernel) rfl⟩
set_option maxRecDepth 20000 in
theorem mi_X8_lastOf : MI yX8_lastOf cX8_lastOf 5 (some .int) 2 := ⟨bg_5 198 rfl rfl, bg_1 9 (by decide +kernel) rfl, ⟨by decide +kernel, by decide +kernel⟩, by decide +kernel, Nat.le_of_ble_eq_true rfl⟩
theorem mv_X8_lastOf : Cond.instanceMethod yX8_lastOf ∈ BIG ∧ Cond.selects (yX8_lastOf).cls yX8_lastOf yX8_lastOf ∈ BIG := ⟨bg_5 197 (by decide +kernel) rfl, big_of 42 (by decide +kernel) rfl⟩
set_option maxRecDepth 20000 in
theorem mi_X8_wall : MI yX8_wall cX8_wall 1 (some .int) 0 := ⟨bg_5 194 rfl rfl, bg_1 9 (by decide +kernel) rfl, ⟨by decide +kernel, by decide +kernel⟩, by decide +kernel, Nat.le_of_ble_eq_true rfl⟩
theorem mv_X8_wall : Cond.instanceMethod yX8_wall ∈ BIG ∧ Cond.selects (yX8_wall).cls yX8_wall yX8_wall ∈ BIG := ⟨bg_5 193 (by decide +kernel) rfl, big_of 41 (by decide +kernel) rfl⟩
set_option maxRecDepth 20000 in
theorem mi_X8_calm : MI yX8_calm cX8_calm 1 (some .int) 0 := ⟨bg_6 58 rfl rfl, bg_1 9 (by decide +kernel) rfl, ⟨by decide +kernel, by decide +kernel⟩, by decide +kernel, Nat.le_of_ble_eq_true rfl⟩
theorem mv_X8_calm : Cond.instanceMethod yX8_calm ∈ BIG ∧ Cond.selects (yX8_calm).cls yX8_calm yX8_calm ∈ BIG := ⟨bg_6 57 (by decide +kernel) rfl, big_of 61 (by decide +kernel) rfl⟩
set_option maxRecDepth 20000 in
theorem mi_X8_wear : MI yX8_wear cX8_wear 1 (some .int) 0 := ⟨bg_6 50 rfl rfl, bg_1 9 (by decide +kernel) rfl, ⟨by decide +kernel, by decide +kernel⟩, by decide +kernel, Nat.le_of_ble_eq_true rfl⟩
theorem mv_X8_wear : Cond.instanceMethod yX8_wear ∈ BIG ∧ Cond.selects (yX8_wear).cls yX8_wear yX8_wear ∈ BIG := ⟨bg_6 49 (by decide +kernel) rfl, big_of 60 (by decide +kernel) rfl⟩
set_option maxRecDepth 20000 in
theorem mi_X8_factOf : MI yX8_factOf cX8_factOf 4 (some .int) 3 := ⟨bg_5 182 rfl rfl, bg_1 9 (by decide +kernel) rfl, ⟨by decide +kernel, by decide +kernel⟩, by decide +kernel, Nat.le_of_ble_eq_true rfl⟩
theorem mv_X8_factOf : Cond.instanceMethod yX8_factOf ∈ BIG ∧ Cond.selects (yX8_factOf).cls yX8_factOf yX8_factOf ∈ BIG := ⟨bg_5 181 (by decide +kernel) rfl, big_of 38 (by decide +kernel) rfl⟩
set_option maxRecDepth 20000 in
theorem mi_X8_holds : MI yX8_holds cX8_holds 9 (some .boolean) 3 := ⟨bg_5 178 rfl rfl, bg_1 9 (by decide +kernel) rfl, ⟨by decide +kernel, by decide +kernel⟩, by decide +kernel, Nat.le_of_ble_eq_true rfl⟩
theorem mv_X8_holds : Cond.instanceMethod yX8_holds ∈ BIG ∧ Cond.selects (yX8_holds).cls yX8_holds yX8_holds ∈ BIG := ⟨bg_5 177 (by decide +kernel) rfl, big_of 37 (by decide +kernel) rfl⟩
set_option maxRecDepth 20000 in
theorem mi_X8_voice : MI yX8_voice cX8_voice 5 (some .int) 2 := ⟨bg_5 166 rfl rfl, bg_1 9 (by decide +kernel) rfl, ⟨by decide +kernel, by decide +kernel⟩, by decide +kernel, Nat.le_of_ble_eq_true rfl⟩
theorem mv_X8_voice : Cond.instanceMethod yX8_voice ∈ BIG ∧ Cond.selects (yX8_voice).cls yX8_voice yX8_voice ∈ BIG := ⟨bg_5 165 (by decide +kernel) rfl, big_of 34 (by decide +kernel) rfl⟩
set_option maxRecDepth 20000 in
theorem mi_X8_heardBy : MI yX8_heardBy cX8_heardBy 8 (some .int) 3 := ⟨bg_5 190 rfl rfl, bg_1 9 (by decide +kernel) rfl, ⟨by decide +kernel, by decide +kernel⟩, by decide +kernel, Nat.le_of_ble_eq_true rfl⟩
theorem mv_X8_heardBy : Cond.instanceMethod yX8_heardBy ∈ BIG ∧ Cond.selects (yX8_heardBy).cls yX8_heardBy yX8_heardBy ∈ BIG := ⟨bg_5 189 (by decide +kernel) rfl, big_of 40 (by decide +kernel) rfl⟩
set_option maxRecDepth 20000 in
theorem mi_X8_heard : MI yX8_heard cX8_heard 3 (some .int) 2 := ⟨bg_6 42 rfl rfl, bg_1 9 (by decide +kernel) rfl, ⟨by decide +kernel, by decide +kernel⟩, by decide +kernel, Nat.le_of_ble_eq_true rfl⟩
theorem mv_X8_heard : Cond.instanceMethod yX8_heard ∈ BIG ∧ Cond.selects (yX8_heard).cls yX8_heard yX8_heard ∈ BIG := ⟨bg_6 41 (by decide +kernel) rfl, big_of 58 (by decide +kernel) rfl⟩
set_option maxRecDepth 20000 in
theorem mi_X8_layNoises : MI yX8_layNoises cX8_layNoises 4 none 0 := ⟨bg_5 162 rfl rfl, bg_1 9 (by decide +kernel) rfl, ⟨by decide +kernel, by decide +kernel⟩, by decide +kernel, Nat.le_of_ble_eq_true rfl⟩
theorem mv_X8_layNoises : Cond.instanceMethod yX8_layNoises ∈ BIG ∧ Cond.selects (yX8_layNoises).cls yX8_layNoises yX8_layNoises ∈ BIG := ⟨bg_5 161 (by decide +kernel) rfl, big_of 33 (by decide +kernel) rfl⟩
set_option maxRecDepth 20000 in
theorem mi_X8_noise : MI yX8_noise cX8_noise 2 (some .int) 1 := ⟨bg_5 158 rfl rfl, bg_1 9 (by decide +kernel) rfl, ⟨by decide +kernel, by decide +kernel⟩, by decide +kernel, Nat.le_of_ble_eq_true rfl⟩
theorem mv_X8_noise : Cond.instanceMethod yX8_noise ∈ BIG ∧ Cond.selects (yX8_noise).cls yX8_noise yX8_noise ∈ BIG := ⟨bg_5 157 (by decide +kernel) rfl, big_of 32 (by decide +kernel) rfl⟩
set_option maxRecDepth 20000 in
theorem mi_X8_greatestLaid : MI yX8_greatestLaid cX8_greatestLaid 3 (some .int) 0 := ⟨bg_6 66 rfl rfl, bg_1 9 (by decide +kernel) rfl, ⟨by decide +kernel, by decide +kernel⟩, by decide +kernel, Nat.le_of_ble_eq_true rfl⟩
theorem mv_X8_greatestLaid : Cond.instanceMethod yX8_greatestLaid ∈ BIG ∧ Cond.selects (yX8_greatestLaid).cls yX8_greatestLaid yX8_greatestLaid ∈ BIG := ⟨bg_6 65 (by decide +kernel) rfl, big_of 63 (by decide +kernel) rfl⟩
set_option maxRecDepth 20000 in
theorem mi_X8_greatest : MI yX8_greatest cX8_greatest 1 (some .int) 0 := ⟨bg_6 62 rfl rfl, bg_1 9 (by decide +kernel) rfl, ⟨by decide +kernel, by decide +kernel⟩, by decide +kernel, Nat.le_of_ble_eq_true rfl⟩
theorem mv_X8_greatest : Cond.instanceMethod yX8_greatest ∈ BIG ∧ Cond.selects (yX8_greatest).cls yX8_greatest yX8_greatest ∈ BIG := ⟨bg_6 61 (by decide +kernel) rfl, big_of 62 (by decide +kernel) rfl⟩
set_option maxRecDepth 20000 in
theorem mi_X8_stillSet : MI yX8_stillSet cX8_stillSet 3 (some .int) 0 := ⟨bg_6 70 rfl rfl, bg_1 9 (by decide +kernel) rfl, ⟨by decide +kernel, by decide +kernel⟩, by decide +kernel, Nat.le_of_ble_eq_true rfl⟩
theorem mv_X8_stillSet : Cond.instanceMethod yX8_stillSet ∈ BIG ∧ Cond.selects (yX8_stillSet).cls yX8_stillSet yX8_stillSet ∈ BIG := ⟨bg_6 69 (by decide +kernel) rfl, big_of 64 (by decide +kernel) rfl⟩
set_option maxRecDepth 20000 in
theorem mi_X8_wears : MI yX8_wears cX8_wears 2 (some .int) 1 := ⟨bg_6 46 rfl rfl, bg_1 9 (by decide +kernel) rfl, ⟨by decide +kernel, by decide +kernel⟩, by decide +kernel, Nat.le_of_ble_eq_true rfl⟩
theorem mv_X8_wears : Cond.instanceMethod yX8_wears ∈ BIG ∧ Cond.selects (yX8_wears).cls yX8_wears yX8_wears ∈ BIG := ⟨bg_6 45 (by decide +kernel) rfl, big_of 59 (by decide +kernel) rfl⟩
set_option maxRecDepth 20000 in
theorem mi_X8_of : MI yX8_of cX8_of 3 (some .int) 2 := ⟨bg_6 38 rfl rfl, bg_1 9 (by decide +kernel) rfl, ⟨by decide +kernel, by decide +kernel⟩, by decide +kernel, Nat.le_of_ble_eq_true rfl⟩
theorem mv_X8_of : Cond.instanceMethod yX8_of ∈ BIG ∧ Cond.selects (yX8_of).cls yX8_of yX8_of ∈ BIG := ⟨bg_6 36 (by decide +kernel) rfl, bg_6 37 (by decide +kernel) rfl⟩
set_option maxRecDepth 20000 in
theorem mi_X8_told : MI yX8_told cX8_told 2 (some .int) 1 := ⟨bg_6 54 rfl rfl, bg_1 9 (by decide +kernel) rfl, ⟨by decide +kernel, by decide +kernel⟩, by decide +kernel, Nat.le_of_ble_eq_true rfl⟩
theorem mv_X8_told : Cond.instanceMethod yX8_told ∈ BIG ∧ Cond.selects (yX8_told).cls yX8_told yX8_told ∈ BIG := ⟨bg_6 52 (by decide +kernel) rfl, bg_6 53 (by decide +kernel) rfl⟩
set_option maxRecDepth 20000 in
theorem mi_X8_goYear : MI yX8_goYear cX8_goYear 2 none 0 := ⟨bg_6 86 rfl rfl, bg_1 9 (by decide +kernel) rfl, ⟨by decide +kernel, by decide +kernel⟩, by decide +kernel, Nat.le_of_ble_eq_true rfl⟩
theorem mv_X8_goYear : Cond.instanceMethod yX8_goYear ∈ BIG ∧ Cond.selects (yX8_goYear).cls yX8_goYear yX8_goYear ∈ BIG := ⟨bg_6 85 (by decide +kernel) rfl, big_of 67 (by decide +kernel) rfl⟩
set_option maxRecDepth 20000 in
theorem mi_X8_goYears : MI yX8_goYears cX8_goYears 3 none 1 := ⟨bg_6 82 rfl rfl, bg_1 9 (by decide +kernel) rfl, ⟨by decide +kernel, by decide +kernel⟩, by decide +kernel, Nat.le_of_ble_eq_true rfl⟩
theorem mv_X8_goYears : Cond.instanceMethod yX8_goYears ∈ BIG ∧ Cond.selects (yX8_goYears).cls yX8_goYears yX8_goYears ∈ BIG := ⟨bg_6 81 (by decide +kernel) rfl, big_of 66 (by decide +kernel) rfl⟩
set_option maxRecDepth 20000 in
theorem mi_X8_years : MI yX8_years cX8_years 2 (some .int) 1 := ⟨bg_6 74 rfl rfl, bg_1 9 (by decide +kernel) rfl, ⟨by decide +kernel, by decide +kernel⟩, by decide +kernel, Nat.le_of_ble_eq_true rfl⟩
theorem mv_X8_years : Cond.instanceMethod yX8_years ∈ BIG ∧ Cond.selects (yX8_years).cls yX8_years yX8_years ∈ BIG := ⟨bg_6 72 (by decide +kernel) rfl, bg_6 73 (by decide +kernel) rfl⟩
set_option maxRecDepth 20000 in
theorem mi_X8_save : MI yX8_save cX8_save 2 none 0 := ⟨bg_6 94 rfl rfl, bg_1 9 (by decide +kernel) rfl, ⟨by decide +kernel, by decide +kernel⟩, by decide +kernel, Nat.le_of_ble_eq_true rfl⟩
theorem mv_X8_save : Cond.instanceMethod yX8_save ∈ BIG ∧ Cond.selects (yX8_save).cls yX8_save yX8_save ∈ BIG := ⟨bg_6 93 (by decide +kernel) rfl, big_of 68 (by decide +kernel) rfl⟩
set_option maxRecDepth 20000 in
theorem mi_X8_putBack : MI yX8_putBack cX8_putBack 2 none 0 := ⟨bg_6 98 rfl rfl, bg_1 9 (by decide +kernel) rfl, ⟨by decide +kernel, by decide +kernel⟩, by decide +kernel, Nat.le_of_ble_eq_true rfl⟩
theorem mv_X8_putBack : Cond.instanceMethod yX8_putBack ∈ BIG ∧ Cond.selects (yX8_putBack).cls yX8_putBack yX8_putBack ∈ BIG := ⟨bg_6 97 (by decide +kernel) rfl, big_of 69 (by decide +kernel) rfl⟩
set_option maxRecDepth 20000 in
theorem mi_X8_on : MI yX8_on cX8_on 4 (some .int) 2 := ⟨bg_6 90 rfl rfl, bg_1 9 (by decide +kernel) rfl, ⟨by decide +kernel, by decide +kernel⟩, by decide +kernel, Nat.le_of_ble_eq_true rfl⟩
theorem mv_X8_on : Cond.instanceMethod yX8_on ∈ BIG ∧ Cond.selects (yX8_on).cls yX8_on yX8_on ∈ BIG := ⟨bg_6 88 (by decide +kernel) rfl, bg_6 89 (by decide +kernel) rfl⟩
set_option maxRecDepth 20000 in
theorem mi_X8_when : MI yX8_when cX8_when 6 (some .int) 2 := ⟨bg_6 102 rfl rfl, bg_1 9 (by decide +kernel) rfl, ⟨by decide +kernel, by decide +kernel⟩, by decide +kernel, Nat.le_of_ble_eq_true rfl⟩
theorem mv_X8_when : Cond.instanceMethod yX8_when ∈ BIG ∧ Cond.selects (yX8_when).cls yX8_when yX8_when ∈ BIG := ⟨bg_6 100 (by decide +kernel) rfl, bg_6 101 (by decide +kernel) rfl⟩
set_option maxRecDepth 20000 in
theorem mi_X8_home : MI yX8_home cX8_home 7 (some .int) 1 := ⟨bg_6 106 rfl rfl, bg_1 9 (by decide +kernel) rfl, ⟨by decide +kernel, by decide +kernel⟩, by decide +kernel, Nat.le_of_ble_eq_true rfl⟩
theorem mv_X8_home : Cond.instanceMethod yX8_home ∈ BIG ∧ Cond.selects (yX8_home).cls yX8_home yX8_home ∈ BIG := ⟨bg_6 104 (by decide +kernel) rfl, bg_6 105 (by decide +kernel) rfl⟩
set_option maxRecDepth 20000 in
theorem mi_X8_layAll : MI yX8_layAll cX8_layAll 6 none 0 := ⟨bg_6 119 rfl rfl, bg_1 9 (by decide +kernel) rfl, ⟨by decide +kernel, by decide +kernel⟩, by decide +kernel, Nat.le_of_ble_eq_true rfl⟩
theorem mv_X8_layAll : Cond.instanceMethod yX8_layAll ∈ BIG ∧ Cond.selects (yX8_layAll).cls yX8_layAll yX8_layAll ∈ BIG := ⟨bg_6 118 (by decide +kernel) rfl, big_of 71 (by decide +kernel) rfl⟩
set_option maxRecDepth 20000 in
theorem mi_X8_layPlaces : MI yX8_layPlaces cX8_layPlaces 5 none 1 := ⟨bg_6 123 rfl rfl, bg_1 9 (by decide +kernel) rfl, ⟨by decide +kernel, by decide +kernel⟩, by decide +kernel, Nat.le_of_ble_eq_true rfl⟩
theorem mv_X8_layPlaces : Cond.instanceMethod yX8_layPlaces ∈ BIG ∧ Cond.selects (yX8_layPlaces).cls yX8_layPlaces yX8_layPlaces ∈ BIG := ⟨bg_6 122 (by decide +kernel) rfl, big_of 72 (by decide +kernel) rfl⟩
set_option maxRecDepth 20000 in
theorem mi_X8_sumLaid : MI yX8_sumLaid cX8_sumLaid 1 (some .int) 0 := ⟨bg_6 127 rfl rfl, bg_1 9 (by decide +kernel) rfl, ⟨by decide +kernel, by decide +kernel⟩, by decide +kernel, Nat.le_of_ble_eq_true rfl⟩
theorem mv_X8_sumLaid : Cond.instanceMethod yX8_sumLaid ∈ BIG ∧ Cond.selects (yX8_sumLaid).cls yX8_sumLaid yX8_sumLaid ∈ BIG := ⟨bg_6 126 (by decide +kernel) rfl, big_of 73 (by decide +kernel) rfl⟩
set_option maxRecDepth 20000 in
theorem mi_X8_layShared : MI yX8_layShared cX8_layShared 6 none 0 := ⟨bg_6 115 rfl rfl, bg_1 9 (by decide +kernel) rfl, ⟨by decide +kernel, by decide +kernel⟩, by decide +kernel, Nat.le_of_ble_eq_true rfl⟩
theorem mv_X8_layShared : Cond.instanceMethod yX8_layShared ∈ BIG ∧ Cond.selects (yX8_layShared).cls yX8_layShared yX8_layShared ∈ BIG := ⟨bg_6 114 (by decide +kernel) rfl, big_of 70 (by decide +kernel) rfl⟩
set_option maxRecDepth 20000 in
theorem mi_X8_shared : MI yX8_shared cX8_shared 2 (some .int) 1 := ⟨bg_6 111 rfl rfl, bg_1 9 (by decide +kernel) rfl, ⟨by decide +kernel, by decide +kernel⟩, by decide +kernel, Nat.le_of_ble_eq_true rfl⟩
theorem mv_X8_shared : Cond.instanceMethod yX8_shared ∈ BIG ∧ Cond.selects (yX8_shared).cls yX8_shared yX8_shared ∈ BIG := ⟨bg_6 109 (by decide +kernel) rfl, bg_6 110 (by decide +kernel) rfl⟩
set_option maxRecDepth 20000 in
theorem mi_X8_swaps : MI yX8_swaps cX8_swaps 4 none 2 := ⟨bg_6 139 rfl rfl, bg_1 9 (by decide +kernel) rfl, ⟨by decide +kernel, by decide +kernel⟩, by decide +kernel, Nat.le_of_ble_eq_true rfl⟩
theorem mv_X8_swaps : Cond.instanceMethod yX8_swaps ∈ BIG ∧ Cond.selects (yX8_swaps).cls yX8_swaps yX8_swaps ∈ BIG := ⟨bg_6 138 (by decide +kernel) rfl, big_of 75 (by decide +kernel) rfl⟩
set_option maxRecDepth 20000 in
theorem mi_X8_changeOf : MI yX8_changeOf cX8_changeOf 6 (some .int) 0 := ⟨bg_6 135 rfl rfl, bg_1 9 (by decide +kernel) rfl, ⟨by decide +kernel, by decide +kernel⟩, by decide +kernel, Nat.le_of_ble_eq_true rfl⟩
theorem mv_X8_changeOf : Cond.instanceMethod yX8_changeOf ∈ BIG ∧ Cond.selects (yX8_changeOf).cls yX8_changeOf yX8_changeOf ∈ BIG := ⟨bg_6 134 (by decide +kernel) rfl, big_of 74 (by decide +kernel) rfl⟩
set_option maxRecDepth 20000 in
theorem mi_X8_greatestWithout : MI yX8_greatestWithout cX8_greatestWithout 4 (some .int) 1 := ⟨bg_6 147 rfl rfl, bg_1 9 (by decide +kernel) rfl, ⟨by decide +kernel, by decide +kernel⟩, by decide +kernel, Nat.le_of_ble_eq_true rfl⟩
theorem mv_X8_greatestWithout : Cond.instanceMethod yX8_greatestWithout ∈ BIG ∧ Cond.selects (yX8_greatestWithout).cls yX8_greatestWithout yX8_greatestWithout ∈ BIG := ⟨bg_6 146 (by decide +kernel) rfl, big_of 77 (by decide +kernel) rfl⟩
set_option maxRecDepth 20000 in
theorem mi_X8_worstOf : MI yX8_worstOf cX8_worstOf 5 (some .int) 0 := ⟨bg_6 143 rfl rfl, bg_1 9 (by decide +kernel) rfl, ⟨by decide +kernel, by decide +kernel⟩, by decide +kernel, Nat.le_of_ble_eq_true rfl⟩
theorem mv_X8_worstOf : Cond.instanceMethod yX8_worstOf ∈ BIG ∧ Cond.selects (yX8_worstOf).cls yX8_worstOf yX8_worstOf ∈ BIG := ⟨bg_6 142 (by decide +kernel) rfl, big_of 76 (by decide +kernel) rfl⟩
set_option maxRecDepth 20000 in
theorem mi_X8_best : MI yX8_best cX8_best 2 (some .int) 1 := ⟨bg_6 131 rfl rfl, bg_1 9 (by decide +kernel) rfl, ⟨by decide +kernel, by decide +kernel⟩, by decide +kernel, Nat.le_of_ble_eq_true rfl⟩
theorem mv_X8_best : Cond.instanceMethod yX8_best ∈ BIG ∧ Cond.selects (yX8_best).cls yX8_best yX8_best ∈ BIG := ⟨bg_6 129 (by decide +kernel) rfl, bg_6 130 (by decide +kernel) rfl⟩
set_option maxRecDepth 20000 in
theorem mi_X8_stepOf : MI yX8_stepOf cX8_stepOf 6 (some .int) 3 := ⟨bg_6 159 rfl rfl, bg_1 9 (by decide +kernel) rfl, ⟨by decide +kernel, by decide +kernel⟩, by decide +kernel, Nat.le_of_ble_eq_true rfl⟩
theorem mv_X8_stepOf : Cond.instanceMethod yX8_stepOf ∈ BIG ∧ Cond.selects (yX8_stepOf).cls yX8_stepOf yX8_stepOf ∈ BIG := ⟨bg_6 158 (by decide +kernel) rfl, big_of 79 (by decide +kernel) rfl⟩
set_option maxRecDepth 20000 in
theorem mi_X8_isStillBy : MI yX8_isStillBy cX8_isStillBy 7 (some .boolean) 2 := ⟨bg_6 155 rfl rfl, bg_1 9 (by decide +kernel) rfl, ⟨by decide +kernel, by decide +kernel⟩, by decide +kernel, Nat.le_of_ble_eq_true rfl⟩
theorem mv_X8_isStillBy : Cond.instanceMethod yX8_isStillBy ∈ BIG ∧ Cond.selects (yX8_isStillBy).cls yX8_isStillBy yX8_isStillBy ∈ BIG := ⟨bg_6 154 (by decide +kernel) rfl, big_of 78 (by decide +kernel) rfl⟩
set_option maxRecDepth 20000 in
theorem mi_X8_fewest : MI yX8_fewest cX8_fewest 5 (some .int) 1 := ⟨bg_6 151 rfl rfl, bg_1 9 (by decide +kernel) rfl, ⟨by decide +kernel, by decide +kernel⟩, by decide +kernel, Nat.le_of_ble_eq_true rfl⟩
theorem mv_X8_fewest : Cond.instanceMethod yX8_fewest ∈ BIG ∧ Cond.selects (yX8_fewest).cls yX8_fewest yX8_fewest ∈ BIG := ⟨bg_6 149 (by decide +kernel) rfl, bg_6 150 (by decide +kernel) rfl⟩
set_option maxRecDepth 20000 in
theorem mi_X8_see : MI yX8_see cX8_see 4 (some .int) 3 := ⟨bg_6 163 rfl rfl, bg_1 9 (by decide +kernel) rfl, ⟨by decide +kernel, by decide +kernel⟩, by decide +kernel, Nat.le_of_ble_eq_true rfl⟩
theorem mv_X8_see : Cond.instanceMethod yX8_see ∈ BIG ∧ Cond.selects (yX8_see).cls yX8_see yX8_see ∈ BIG := ⟨bg_6 161 (by decide +kernel) rfl, bg_6 162 (by decide +kernel) rfl⟩
set_option maxRecDepth 20000 in
theorem mi_X8_isSeen : MI yX8_isSeen cX8_isSeen 3 (some .boolean) 0 := ⟨bg_6 171 rfl rfl, bg_1 9 (by decide +kernel) rfl, ⟨by decide +kernel, by decide +kernel⟩, by decide +kernel, Nat.le_of_ble_eq_true rfl⟩
theorem mv_X8_isSeen : Cond.instanceMethod yX8_isSeen ∈ BIG ∧ Cond.selects (yX8_isSeen).cls yX8_isSeen yX8_isSeen ∈ BIG := ⟨bg_6 170 (by decide +kernel) rfl, big_of 80 (by decide +kernel) rfl⟩
set_option maxRecDepth 20000 in
theorem mi_X8_louds : MI yX8_louds cX8_louds 7 (some .int) 2 := ⟨bg_6 167 rfl rfl, bg_1 9 (by decide +kernel) rfl, ⟨by decide +kernel, by decide +kernel⟩, by decide +kernel, Nat.le_of_ble_eq_true rfl⟩
theorem mv_X8_louds : Cond.instanceMethod yX8_louds ∈ BIG ∧ Cond.selects (yX8_louds).cls yX8_louds yX8_louds ∈ BIG := ⟨bg_6 165 (by decide +kernel) rfl, bg_6 166 (by decide +kernel) rfl⟩
set_option maxRecDepth 20000 in
theorem mi_X8_can : MI yX8_can cX8_can 7 (some .int) 2 := ⟨bg_6 175 rfl rfl, bg_1 9 (by decide +kernel) rfl, ⟨by decide +kernel, by decide +kernel⟩, by decide +kernel, Nat.le_of_ble_eq_true rfl⟩
theorem mv_X8_can : Cond.instanceMethod yX8_can ∈ BIG ∧ Cond.selects (yX8_can).cls yX8_can yX8_can ∈ BIG := ⟨bg_6 173 (by decide +kernel) rfl, bg_6 174 (by decide +kernel) rfl⟩
set_option maxRecDepth 20000 in
theorem mi_X8_where : MI yX8_where cX8_where 5 (some .int) 1 := ⟨bg_6 179 rfl rfl, bg_1 9 (by decide +kernel) rfl, ⟨by decide +kernel, by decide +kernel⟩, by decide +kernel, Nat.le_of_ble_eq_true rfl⟩
theorem mv_X8_where : Cond.instanceMethod yX8_where ∈ BIG ∧ Cond.selects (yX8_where).cls yX8_where yX8_where ∈ BIG := ⟨bg_6 177 (by decide +kernel) rfl, bg_6 178 (by decide +kernel) rfl⟩
set_option maxRecDepth 20000 in
theorem mi_X8_divisor : MI yX8_divisor cX8_divisor 6 (some .int) 2 := ⟨bg_6 192 rfl rfl, bg_1 9 (by decide +kernel) rfl, ⟨by decide +kernel, by decide +kernel⟩, by decide +kernel, Nat.le_of_ble_eq_true rfl⟩
theorem mv_X8_divisor : Cond.instanceMethod yX8_divisor ∈ BIG ∧ Cond.selects (yX8_divisor).cls yX8_divisor yX8_divisor ∈ BIG := ⟨bg_6 191 (by decide +kernel) rfl, big_of 82 (by decide +kernel) rfl⟩
set_option maxRecDepth 20000 in
theorem mi_X8_lowest : MI yX8_lowest cX8_lowest 5 (some .long) 3 := ⟨bg_6 188 rfl rfl, bg_1 9 (by decide +kernel) rfl, ⟨by decide +kernel, by decide +kernel⟩, by decide +kernel, Nat.le_of_ble_eq_true rfl⟩
theorem mv_X8_lowest : Cond.instanceMethod yX8_lowest ∈ BIG ∧ Cond.selects (yX8_lowest).cls yX8_lowest yX8_lowest ∈ BIG := ⟨bg_6 187 (by decide +kernel) rfl, big_of 81 (by decide +kernel) rfl⟩
set_option maxRecDepth 20000 in
theorem mi_X8_odds : MI yX8_odds cX8_odds 6 (some .long) 2 := ⟨bg_6 183 rfl rfl, bg_1 9 (by decide +kernel) rfl, ⟨by decide +kernel, by decide +kernel⟩, by decide +kernel, Nat.le_of_ble_eq_true rfl⟩
theorem mv_X8_odds : Cond.instanceMethod yX8_odds ∈ BIG ∧ Cond.selects (yX8_odds).cls yX8_odds yX8_odds ∈ BIG := ⟨bg_6 181 (by decide +kernel) rfl, bg_6 182 (by decide +kernel) rfl⟩
set_option maxRecDepth 20000 in
theorem mi_X8_mean : MI yX8_mean cX8_mean 4 (some .long) 2 := ⟨bg_6 196 rfl rfl, bg_1 9 (by decide +kernel) rfl, ⟨by decide +kernel, by decide +kernel⟩, by decide +kernel, Nat.le_of_ble_eq_true rfl⟩
theorem mv_X8_mean : Cond.instanceMethod yX8_mean ∈ BIG ∧ Cond.selects (yX8_mean).cls yX8_mean yX8_mean ∈ BIG := ⟨bg_6 194 (by decide +kernel) rfl, bg_6 195 (by decide +kernel) rfl⟩
set_option maxRecDepth 20000 in
theorem mi_X8_plan : MI yX8_plan cX8_plan 3 (some .int) 2 := ⟨bg_6 200 rfl rfl, bg_1 9 (by decide +kernel) rfl, ⟨by decide +kernel, by decide +kernel⟩, by decide +kernel, Nat.le_of_ble_eq_true rfl⟩
theorem mv_X8_plan : Cond.instanceMethod yX8_plan ∈ BIG ∧ Cond.selects (yX8_plan).cls yX8_plan yX8_plan ∈ BIG := ⟨bg_6 198 (by decide +kernel) rfl, bg_6 199 (by decide +kernel) rfl⟩
set_option maxRecDepth 20000 in
theorem mi_X8_goPlan : MI yX8_goPlan cX8_goPlan 3 none 2 := ⟨bg_6 208 rfl rfl, bg_1 9 (by decide +kernel) rfl, ⟨by decide +kernel, by decide +kernel⟩, by decide +kernel, Nat.le_of_ble_eq_true rfl⟩
theorem mv_X8_goPlan : Cond.instanceMethod yX8_goPlan ∈ BIG ∧ Cond.selects (yX8_goPlan).cls yX8_goPlan yX8_goPlan ∈ BIG := ⟨bg_6 207 (by decide +kernel) rfl, big_of 83 (by decide +kernel) rfl⟩
set_option maxRecDepth 20000 in
theorem mi_X8_ends : MI yX8_ends cX8_ends 5 (some .int) 1 := ⟨bg_6 204 rfl rfl, bg_1 9 (by decide +kernel) rfl, ⟨by decide +kernel, by decide +kernel⟩, by decide +kernel, Nat.le_of_ble_eq_true rfl⟩
theorem mv_X8_ends : Cond.instanceMethod yX8_ends ∈ BIG ∧ Cond.selects (yX8_ends).cls yX8_ends yX8_ends ∈ BIG := ⟨bg_6 202 (by decide +kernel) rfl, bg_6 203 (by decide +kernel) rfl⟩
set_option maxRecDepth 20000 in
theorem mi_X8_book : MI yX8_book cX8_book 3 (some .int) 2 := ⟨bg_6 212 rfl rfl, bg_1 9 (by decide +kernel) rfl, ⟨by decide +kernel, by decide +kernel⟩, by decide +kernel, Nat.le_of_ble_eq_true rfl⟩
theorem mv_X8_book : Cond.instanceMethod yX8_book ∈ BIG ∧ Cond.selects (yX8_book).cls yX8_book yX8_book ∈ BIG := ⟨bg_6 210 (by decide +kernel) rfl, bg_6 211 (by decide +kernel) rfl⟩
set_option maxRecDepth 20000 in
theorem mi_X8_looked : MI yX8_looked cX8_looked 2 (some .int) 0 := ⟨bg_6 216 rfl rfl, bg_1 9 (by decide +kernel) rfl, ⟨by decide +kernel, by decide +kernel⟩, by decide +kernel, Nat.le_of_ble_eq_true rfl⟩
theorem mv_X8_looked : Cond.instanceMethod yX8_looked ∈ BIG ∧ Cond.selects (yX8_looked).cls yX8_looked yX8_looked ∈ BIG := ⟨bg_6 214 (by decide +kernel) rfl, bg_6 215 (by decide +kernel) rfl⟩
set_option maxRecDepth 20000 in
theorem mi_X8_judge : MI yX8_judge cX8_judge 4 (some .int) 2 := ⟨bg_6 220 rfl rfl, bg_1 9 (by decide +kernel) rfl, ⟨by decide +kernel, by decide +kernel⟩, by decide +kernel, Nat.le_of_ble_eq_true rfl⟩
theorem mv_X8_judge : Cond.instanceMethod yX8_judge ∈ BIG ∧ Cond.selects (yX8_judge).cls yX8_judge yX8_judge ∈ BIG := ⟨bg_6 218 (by decide +kernel) rfl, bg_6 219 (by decide +kernel) rfl⟩
set_option maxRecDepth 20000 in
theorem mi_X8_image : MI yX8_image cX8_image 2 (some .int) 0 := ⟨bg_6 228 rfl rfl, bg_1 9 (by decide +kernel) rfl, ⟨by decide +kernel, by decide +kernel⟩, by decide +kernel, Nat.le_of_ble_eq_true rfl⟩
theorem mv_X8_image : Cond.instanceMethod yX8_image ∈ BIG ∧ Cond.selects (yX8_image).cls yX8_image yX8_image ∈ BIG := ⟨bg_6 226 (by decide +kernel) rfl, bg_6 227 (by decide +kernel) rfl⟩
set_option maxRecDepth 20000 in
theorem mi_X8_undo : MI yX8_undo cX8_undo 2 (some .int) 0 := ⟨bg_6 232 rfl rfl, bg_1 9 (by decide +kernel) rfl, ⟨by decide +kernel, by decide +kernel⟩, by decide +kernel, Nat.le_of_ble_eq_true rfl⟩
theorem mv_X8_undo : Cond.instanceMethod yX8_undo ∈ BIG ∧ Cond.selects (yX8_undo).cls yX8_undo yX8_undo ∈ BIG := ⟨bg_6 230 (by decide +kernel) rfl, bg_6 231 (by decide +kernel) rfl⟩
set_option maxRecDepth 20000 in
theorem mi_X8_body : MI yX8_body cX8_body 2 none 1 := ⟨bg_7 4 rfl rfl, bg_1 9 (by decide +kernel) rfl, ⟨by decide +kernel, by decide +kernel⟩, by decide +kernel, Nat.le_of_ble_eq_true rfl⟩
theorem mv_X8_body : Cond.instanceMethod yX8_body ∈ BIG ∧ Cond.selects (yX8_body).cls yX8_body yX8_body ∈ BIG := ⟨bg_7 3 (by decide +kernel) rfl, big_of 86 (by decide +kernel) rfl⟩
set_option maxRecDepth 20000 in
theorem mi_X8_soundCreaks : MI yX8_soundCreaks cX8_soundCreaks 3 (some .int) 2 := ⟨bg_7 8 rfl rfl, bg_1 9 (by decide +kernel) rfl, ⟨by decide +kernel, by decide +kernel⟩, by decide +kernel, Nat.le_of_ble_eq_true rfl⟩
theorem mv_X8_soundCreaks : Cond.instanceMethod yX8_soundCreaks ∈ BIG ∧ Cond.selects (yX8_soundCreaks).cls yX8_soundCreaks yX8_soundCreaks ∈ BIG := ⟨bg_7 7 (by decide +kernel) rfl, big_of 87 (by decide +kernel) rfl⟩
set_option maxRecDepth 20000 in
theorem mi_X8_creaksAct : MI yX8_creaksAct cX8_creaksAct 3 (some .int) 2 := ⟨bg_7 0 rfl rfl, bg_1 9 (by decide +kernel) rfl, ⟨by decide +kernel, by decide +kernel⟩, by decide +kernel, Nat.le_of_ble_eq_true rfl⟩
theorem mv_X8_creaksAct : Cond.instanceMethod yX8_creaksAct ∈ BIG ∧ Cond.selects (yX8_creaksAct).cls yX8_creaksAct yX8_creaksAct ∈ BIG := ⟨bg_6 239 (by decide +kernel) rfl, big_of 85 (by decide +kernel) rfl⟩
set_option maxRecDepth 20000 in
theorem mi_X8_soundRings : MI yX8_soundRings cX8_soundRings 3 (some .int) 2 := ⟨bg_7 20 rfl rfl, bg_1 9 (by decide +kernel) rfl, ⟨by decide +kernel, by decide +kernel⟩, by decide +kernel, Nat.le_of_ble_eq_true rfl⟩
theorem mv_X8_soundRings : Cond.instanceMethod yX8_soundRings ∈ BIG ∧ Cond.selects (yX8_soundRings).cls yX8_soundRings yX8_soundRings ∈ BIG := ⟨bg_7 19 (by decide +kernel) rfl, big_of 90 (by decide +kernel) rfl⟩
set_option maxRecDepth 20000 in
theorem mi_X8_squeakRings : MI yX8_squeakRings cX8_squeakRings 3 (some .int) 2 := ⟨bg_7 16 rfl rfl, bg_1 9 (by decide +kernel) rfl, ⟨by decide +kernel, by decide +kernel⟩, by decide +kernel, Nat.le_of_ble_eq_true rfl⟩
theorem mv_X8_squeakRings : Cond.instanceMethod yX8_squeakRings ∈ BIG ∧ Cond.selects (yX8_squeakRings).cls yX8_squeakRings yX8_squeakRings ∈ BIG := ⟨bg_7 15 (by decide +kernel) rfl, big_of 89 (by decide +kernel) rfl⟩
set_option maxRecDepth 20000 in
theorem mi_X8_ringsAct : MI yX8_ringsAct cX8_ringsAct 4 (some .int) 2 := ⟨bg_7 12 rfl rfl, bg_1 9 (by decide +kernel) rfl, ⟨by decide +kernel, by decide +kernel⟩, by decide +kernel, Nat.le_of_ble_eq_true rfl⟩
theorem mv_X8_ringsAct : Cond.instanceMethod yX8_ringsAct ∈ BIG ∧ Cond.selects (yX8_ringsAct).cls yX8_ringsAct yX8_ringsAct ∈ BIG := ⟨bg_7 11 (by decide +kernel) rfl, big_of 88 (by decide +kernel) rfl⟩
set_option maxRecDepth 20000 in
theorem mi_X8_soundTells : MI yX8_soundTells cX8_soundTells 3 (some .int) 2 := ⟨bg_7 28 rfl rfl, bg_1 9 (by decide +kernel) rfl, ⟨by decide +kernel, by decide +kernel⟩, by decide +kernel, Nat.le_of_ble_eq_true rfl⟩
theorem mv_X8_soundTells : Cond.instanceMethod yX8_soundTells ∈ BIG ∧ Cond.selects (yX8_soundTells).cls yX8_soundTells yX8_soundTells ∈ BIG := ⟨bg_7 27 (by decide +kernel) rfl, big_of 92 (by decide +kernel) rfl⟩
set_option maxRecDepth 20000 in
theorem mi_X8_tellsAct : MI yX8_tellsAct cX8_tellsAct 4 (some .int) 2 := ⟨bg_7 24 rfl rfl, bg_1 9 (by decide +kernel) rfl, ⟨by decide +kernel, by decide +kernel⟩, by decide +kernel, Nat.le_of_ble_eq_true rfl⟩
theorem mv_X8_tellsAct : Cond.instanceMethod yX8_tellsAct ∈ BIG ∧ Cond.selects (yX8_tellsAct).cls yX8_tellsAct yX8_tellsAct ∈ BIG := ⟨bg_7 23 (by decide +kernel) rfl, big_of 91 (by decide +kernel) rfl⟩
set_option maxRecDepth 20000 in
theorem mi_X8_act : MI yX8_act cX8_act 4 (some .int) 3 := ⟨bg_6 236 rfl rfl, bg_1 9 (by decide +kernel) rfl, ⟨by decide +kernel, by decide +kernel⟩, by decide +kernel, Nat.le_of_ble_eq_true rfl⟩
theorem mv_X8_act : Cond.instanceMethod yX8_act ∈ BIG ∧ Cond.selects (yX8_act).cls yX8_act yX8_act ∈ BIG := ⟨bg_6 234 (by decide +kernel) rfl, bg_6 235 (by decide +kernel) rfl⟩
set_option maxRecDepth 20000 in
theorem mi_X8_trace : MI yX8_trace cX8_trace 2 (some .int) 1 := ⟨bg_7 32 rfl rfl, bg_1 9 (by decide +kernel) rfl, ⟨by decide +kernel, by decide +kernel⟩, by decide +kernel, Nat.le_of_ble_eq_true rfl⟩
theorem mv_X8_trace : Cond.instanceMethod yX8_trace ∈ BIG ∧ Cond.selects (yX8_trace).cls yX8_trace yX8_trace ∈ BIG := ⟨bg_7 30 (by decide +kernel) rfl, bg_7 31 (by decide +kernel) rfl⟩
set_option maxRecDepth 20000 in
theorem mi_X8_taken : MI yX8_taken cX8_taken 4 (some .int) 2 := ⟨bg_7 36 rfl rfl, bg_1 9 (by decide +kernel) rfl, ⟨by decide +kernel, by decide +kernel⟩, by decide +kernel, Nat.le_of_ble_eq_true rfl⟩
theorem mv_X8_taken : Cond.instanceMethod yX8_taken ∈ BIG ∧ Cond.selects (yX8_taken).cls yX8_taken yX8_taken ∈ BIG := ⟨bg_7 34 (by decide +kernel) rfl, bg_7 35 (by decide +kernel) rfl⟩
set_option maxRecDepth 20000 in
theorem mi_X8_count : MI yX8_count cX8_count 2 (some .int) 1 := ⟨bg_7 40 rfl rfl, bg_1 9 (by decide +kernel) rfl, ⟨by decide +kernel, by decide +kernel⟩, by decide +kernel, Nat.le_of_ble_eq_true rfl⟩
theorem mv_X8_count : Cond.instanceMethod yX8_count ∈ BIG ∧ Cond.selects (yX8_count).cls yX8_count yX8_count ∈ BIG := ⟨bg_7 38 (by decide +kernel) rfl, bg_7 39 (by decide +kernel) rfl⟩
set_option maxRecDepth 20000 in
theorem mi_X8_isTape : MI yX8_isTape cX8_isTape 2 (some .boolean) 1 := ⟨bg_6 224 rfl rfl, bg_1 9 (by decide +kernel) rfl, ⟨by decide +kernel, by decide +kernel⟩, by decide +kernel, Nat.le_of_ble_eq_true rfl⟩
theorem mv_X8_isTape : Cond.instanceMethod yX8_isTape ∈ BIG ∧ Cond.selects (yX8_isTape).cls yX8_isTape yX8_isTape ∈ BIG := ⟨bg_6 223 (by decide +kernel) rfl, big_of 84 (by decide +kernel) rfl⟩
set_option maxRecDepth 20000 in
theorem mi_X8_tape : MI yX8_tape cX8_tape 5 (some .int) 3 := ⟨bg_7 44 rfl rfl, bg_1 9 (by decide +kernel) rfl, ⟨by decide +kernel, by decide +kernel⟩, by decide +kernel, Nat.le_of_ble_eq_true rfl⟩
theorem mv_X8_tape : Cond.instanceMethod yX8_tape ∈ BIG ∧ Cond.selects (yX8_tape).cls yX8_tape yX8_tape ∈ BIG := ⟨bg_7 42 (by decide +kernel) rfl, bg_7 43 (by decide +kernel) rfl⟩
set_option maxRecDepth 20000 in
theorem mi_X8_narrow : MI yX8_narrow cX8_narrow 4 (some .long) 2 := ⟨bg_7 52 rfl rfl, bg_1 9 (by decide +kernel) rfl, ⟨by decide +kernel, by decide +kernel⟩, by decide +kernel, Nat.le_of_ble_eq_true rfl⟩
theorem mv_X8_narrow : Cond.instanceMethod yX8_narrow ∈ BIG ∧ Cond.selects (yX8_narrow).cls yX8_narrow yX8_narrow ∈ BIG := ⟨bg_7 51 (by decide +kernel) rfl, big_of 93 (by decide +kernel) rfl⟩
set_option maxRecDepth 20000 in
theorem mi_X8_item : MI yX8_item cX8_item 5 (some .int) 3 := ⟨bg_7 48 rfl rfl, bg_1 9 (by decide +kernel) rfl, ⟨by decide +kernel, by decide +kernel⟩, by decide +kernel, Nat.le_of_ble_eq_true rfl⟩
theorem mv_X8_item : Cond.instanceMethod yX8_item ∈ BIG ∧ Cond.selects (yX8_item).cls yX8_item yX8_item ∈ BIG := ⟨bg_7 46 (by decide +kernel) rfl, bg_7 47 (by decide +kernel) rfl⟩
set_option maxRecDepth 20000 in
theorem mi_X8_read : MI yX8_read cX8_read 3 (some .long) 2 := ⟨bg_7 56 rfl rfl, bg_1 9 (by decide +kernel) rfl, ⟨by decide +kernel, by decide +kernel⟩, by decide +kernel, Nat.le_of_ble_eq_true rfl⟩
theorem mv_X8_read : Cond.instanceMethod yX8_read ∈ BIG ∧ Cond.selects (yX8_read).cls yX8_read yX8_read ∈ BIG := ⟨bg_7 54 (by decide +kernel) rfl, bg_7 55 (by decide +kernel) rfl⟩
set_option maxRecDepth 20000 in
theorem mi_X8_shift : MI yX8_shift cX8_shift 7 (some .int) 5 := ⟨bg_7 60 rfl rfl, bg_1 9 (by decide +kernel) rfl, ⟨by decide +kernel, by decide +kernel⟩, by decide +kernel, Nat.le_of_ble_eq_true rfl⟩
theorem mv_X8_shift : Cond.instanceMethod yX8_shift ∈ BIG ∧ Cond.selects (yX8_shift).cls yX8_shift yX8_shift ∈ BIG := ⟨bg_7 58 (by decide +kernel) rfl, bg_7 59 (by decide +kernel) rfl⟩
set_option maxRecDepth 20000 in
theorem mi_J11_isValidCodePoint_9a6ad : MI yJ11_isValidCodePoint_9a6ad cJ11_isValidCodePoint_9a6ad 2 (some .boolean) 1 := ⟨bg_3 42 rfl rfl, bg_1 15 (by decide +kernel) rfl, ⟨by decide +kernel, by decide +kernel⟩, by decide +kernel, Nat.le_of_ble_eq_true rfl⟩
theorem ms_J11_isValidCodePoint_9a6ad : Cond.static yJ11_isValidCodePoint_9a6ad ∈ BIG := bg_3 41 (by decide +kernel) rfl
set_option maxRecDepth 20000 in
theorem mi_J11_highSurrogate_5068e : MI yJ11_highSurrogate_5068e cJ11_highSurrogate_5068e 1 (some .char) 1 := ⟨bg_3 45 rfl rfl, bg_1 15 (by decide +kernel) rfl, ⟨by decide +kernel, by decide +kernel⟩, by decide +kernel, Nat.le_of_ble_eq_true rfl⟩
theorem ms_J11_highSurrogate_5068e : Cond.static yJ11_highSurrogate_5068e ∈ BIG := bg_3 44 (by decide +kernel) rfl
set_option maxRecDepth 20000 in
theorem mi_J11_lowSurrogate_5068e : MI yJ11_lowSurrogate_5068e cJ11_lowSurrogate_5068e 1 (some .char) 1 := ⟨bg_3 49 rfl rfl, bg_1 15 (by decide +kernel) rfl, ⟨by decide +kernel, by decide +kernel⟩, by decide +kernel, Nat.le_of_ble_eq_true rfl⟩
theorem ms_J11_lowSurrogate_5068e : Cond.static yJ11_lowSurrogate_5068e ∈ BIG := bg_3 48 (by decide +kernel) rfl
set_option maxRecDepth 20000 in
theorem mi_J6_bitCount_0f7a4 : MI yJ6_bitCount_0f7a4 cJ6_bitCount_0f7a4 1 (some .int) 1 := ⟨bg_4 36 rfl rfl, bg_1 17 (by decide +kernel) rfl, ⟨by decide +kernel, by decide +kernel⟩, by decide +kernel, Nat.le_of_ble_eq_true rfl⟩
theorem ms_J6_bitCount_0f7a4 : Cond.static yJ6_bitCount_0f7a4 ∈ BIG := bg_4 35 (by decide +kernel) rfl
set_option maxRecDepth 20000 in
theorem mi_J9_abs_0f7a4 : MI yJ9_abs_0f7a4 cJ9_abs_0f7a4 1 (some .int) 1 := ⟨bg_2 116 rfl rfl, bg_1 10 (by decide +kernel) rfl, ⟨by decide +kernel, by decide +kernel⟩, by decide +kernel, Nat.le_of_ble_eq_true rfl⟩
theorem ms_J9_abs_0f7a4 : Cond.static yJ9_abs_0f7a4 ∈ BIG := bg_2 115 (by decide +kernel) rfl
set_option maxRecDepth 20000 in
theorem mi_J9_max_7cf53 : MI yJ9_max_7cf53 cJ9_max_7cf53 2 (some .int) 2 := ⟨bg_2 103 rfl rfl, bg_1 10 (by decide +kernel) rfl, ⟨by decide +kernel, by decide +kernel⟩, by decide +kernel, Nat.le_of_ble_eq_true rfl⟩
theorem ms_J9_max_7cf53 : Cond.static yJ9_max_7cf53 ∈ BIG := bg_2 102 (by decide +kernel) rfl
set_option maxRecDepth 20000 in
theorem mi_J9_min_7cf53 : MI yJ9_min_7cf53 cJ9_min_7cf53 2 (some .int) 2 := ⟨bg_3 12 rfl rfl, bg_1 10 (by decide +kernel) rfl, ⟨by decide +kernel, by decide +kernel⟩, by decide +kernel, Nat.le_of_ble_eq_true rfl⟩
theorem ms_J9_min_7cf53 : Cond.static yJ9_min_7cf53 ∈ BIG := bg_3 11 (by decide +kernel) rfl
set_option maxRecDepth 20000 in
theorem mi_J0_length_8abf5 : MI yJ0_length_8abf5 cJ0_length_8abf5 1 (some .int) 0 := ⟨bg_2 238 rfl rfl, bg_1 11 (by decide +kernel) rfl, ⟨by decide +kernel, by decide +kernel⟩, by decide +kernel, Nat.le_of_ble_eq_true rfl⟩
theorem mv_J0_length_8abf5 : Cond.instanceMethod yJ0_length_8abf5 ∈ BIG ∧ Cond.selects (yJ0_length_8abf5).cls yJ0_length_8abf5 yJ0_length_8abf5 ∈ BIG := ⟨bg_2 236 (by decide +kernel) rfl, bg_2 237 (by decide +kernel) rfl⟩
set_option maxRecDepth 20000 in
theorem mi_J0_charAt_5068e : MI yJ0_charAt_5068e cJ0_charAt_5068e 2 (some .char) 1 := ⟨bg_2 176 rfl rfl, bg_1 11 (by decide +kernel) rfl, ⟨by decide +kernel, by decide +kernel⟩, by decide +kernel, Nat.le_of_ble_eq_true rfl⟩
theorem mv_J0_charAt_5068e : Cond.instanceMethod yJ0_charAt_5068e ∈ BIG ∧ Cond.selects (yJ0_charAt_5068e).cls yJ0_charAt_5068e yJ0_charAt_5068e ∈ BIG := ⟨bg_2 174 (by decide +kernel) rfl, bg_2 175 (by decide +kernel) rfl⟩
set_option maxRecDepth 20000 in
theorem mi_J0_indexOf_0f7a4 : MI yJ0_indexOf_0f7a4 cJ0_indexOf_0f7a4 2 (some .int) 1 := ⟨bg_2 230 rfl rfl, bg_1 11 (by decide +kernel) rfl, ⟨by decide +kernel, by decide +kernel⟩, by decide +kernel, Nat.le_of_ble_eq_true rfl⟩
theorem mv_J0_indexOf_0f7a4 : Cond.instanceMethod yJ0_indexOf_0f7a4 ∈ BIG ∧ Cond.selects (yJ0_indexOf_0f7a4).cls yJ0_indexOf_0f7a4 yJ0_indexOf_0f7a4 ∈ BIG := ⟨bg_2 228 (by decide +kernel) rfl, bg_2 229 (by decide +kernel) rfl⟩
set_option maxRecDepth 20000 in
theorem mi_J0_indexOf_7cf53 : MI yJ0_indexOf_7cf53 cJ0_indexOf_7cf53 3 (some .int) 2 := ⟨bg_2 234 rfl rfl, bg_1 11 (by decide +kernel) rfl, ⟨by decide +kernel, by decide +kernel⟩, by decide +kernel, Nat.le_of_ble_eq_true rfl⟩
theorem mv_J0_indexOf_7cf53 : Cond.instanceMethod yJ0_indexOf_7cf53 ∈ BIG ∧ Cond.selects (yJ0_indexOf_7cf53).cls yJ0_indexOf_7cf53 yJ0_indexOf_7cf53 ∈ BIG := ⟨bg_2 232 (by decide +kernel) rfl, bg_2 233 (by decide +kernel) rfl⟩
set_option maxRecDepth 20000 in
theorem mi_J0_coder_7d493 : MI yJ0_coder_7d493 cJ0_coder_7d493 1 (some .byte) 0 := ⟨bg_3 2 rfl rfl, bg_1 11 (by decide +kernel) rfl, ⟨by decide +kernel, by decide +kernel⟩, by decide +kernel, Nat.le_of_ble_eq_true rfl⟩
theorem mv_J0_coder_7d493 : Cond.instanceMethod yJ0_coder_7d493 ∈ BIG ∧ Cond.selects (yJ0_coder_7d493).cls yJ0_coder_7d493 yJ0_coder_7d493 ∈ BIG := ⟨bg_3 0 (by decide +kernel) rfl, bg_3 1 (by decide +kernel) rfl⟩
set_option maxRecDepth 20000 in
theorem mi_J0_isLatin1_aae02 : MI yJ0_isLatin1_aae02 cJ0_isLatin1_aae02 1 (some .boolean) 0 := ⟨bg_2 180 rfl rfl, bg_1 11 (by decide +kernel) rfl, ⟨by decide +kernel, by decide +kernel⟩, by decide +kernel, Nat.le_of_ble_eq_true rfl⟩
theorem mv_J0_isLatin1_aae02 : Cond.instanceMethod yJ0_isLatin1_aae02 ∈ BIG ∧ Cond.selects (yJ0_isLatin1_aae02).cls yJ0_isLatin1_aae02 yJ0_isLatin1_aae02 ∈ BIG := ⟨bg_2 178 (by decide +kernel) rfl, bg_2 179 (by decide +kernel) rfl⟩
set_option maxRecDepth 20000 in
theorem mi_J0_checkIndex_df160 : MI yJ0_checkIndex_df160 cJ0_checkIndex_df160 2 none 2 := ⟨bg_2 188 rfl rfl, bg_1 11 (by decide +kernel) rfl, ⟨by decide +kernel, by decide +kernel⟩, by decide +kernel, Nat.le_of_ble_eq_true rfl⟩
theorem ms_J0_checkIndex_df160 : Cond.static yJ0_checkIndex_df160 ∈ BIG := bg_2 187 (by decide +kernel) rfl
set_option maxRecDepth 20000 in
theorem mi_J0_checkBoundsBeginEnd_23922 : MI yJ0_checkBoundsBeginEnd_23922 cJ0_checkBoundsBeginEnd_23922 3 none 3 := ⟨bg_3 30 rfl rfl, bg_1 11 (by decide +kernel) rfl, ⟨by decide +kernel, by decide +kernel⟩, by decide +kernel, Nat.le_of_ble_eq_true rfl⟩
theorem ms_J0_checkBoundsBeginEnd_23922 : Cond.static yJ0_checkBoundsBeginEnd_23922 ∈ BIG := bg_3 29 (by decide +kernel) rfl
set_option maxRecDepth 20000 in
theorem mi_J1_charAt_3b067 : MI yJ1_charAt_3b067 cJ1_charAt_3b067 2 (some .char) 2 := ⟨bg_2 185 rfl rfl, bg_1 12 (by decide +kernel) rfl, ⟨by decide +kernel, by decide +kernel⟩, by decide +kernel, Nat.le_of_ble_eq_true rfl⟩
theorem ms_J1_charAt_3b067 : Cond.static yJ1_charAt_3b067 ∈ BIG := bg_2 184 (by decide +kernel) rfl
set_option maxRecDepth 20000 in
theorem mi_J1_canEncode_9a6ad : MI yJ1_canEncode_9a6ad cJ1_canEncode_9a6ad 1 (some .boolean) 1 := ⟨bg_3 8 rfl rfl, bg_1 12 (by decide +kernel) rfl, ⟨by decide +kernel, by decide +kernel⟩, by decide +kernel, Nat.le_of_ble_eq_true rfl⟩
theorem ms_J1_canEncode_9a6ad : Cond.static yJ1_canEncode_9a6ad ∈ BIG := bg_3 7 (by decide +kernel) rfl
set_option maxRecDepth 20000 in
theorem mi_J1_indexOf_4cfef : MI yJ1_indexOf_4cfef cJ1_indexOf_4cfef 4 (some .int) 4 := ⟨bg_3 5 rfl rfl, bg_1 12 (by decide +kernel) rfl, ⟨by decide +kernel, by decide +kernel⟩, by decide +kernel, Nat.le_of_ble_eq_true rfl⟩
theorem ms_J1_indexOf_4cfef : Cond.static yJ1_indexOf_4cfef ∈ BIG := bg_3 4 (by decide +kernel) rfl
set_option maxRecDepth 20000 in
theorem mi_J1_indexOfChar_4cfef : MI yJ1_indexOfChar_4cfef cJ1_indexOfChar_4cfef 6 (some .int) 4 := ⟨bg_3 15 rfl rfl, bg_1 12 (by decide +kernel) rfl, ⟨by decide +kernel, by decide +kernel⟩, by decide +kernel, Nat.le_of_ble_eq_true rfl⟩
theorem ms_J1_indexOfChar_4cfef : Cond.static yJ1_indexOfChar_4cfef ∈ BIG := bg_3 14 (by decide +kernel) rfl
set_option maxRecDepth 20000 in
theorem mi_J2_getChar_3b067 : MI yJ2_getChar_3b067 cJ2_getChar_3b067 2 (some .char) 2 := ⟨bg_2 206 rfl rfl, bg_1 14 (by decide +kernel) rfl, ⟨by decide +kernel, by decide +kernel⟩, by decide +kernel, Nat.le_of_ble_eq_true rfl⟩
theorem ms_J2_getChar_3b067 : Cond.static yJ2_getChar_3b067 ∈ BIG := bg_2 205 (by decide +kernel) rfl
set_option maxRecDepth 20000 in
theorem mi_J2_length_9d52b : MI yJ2_length_9d52b cJ2_length_9d52b 1 (some .int) 1 := ⟨bg_2 202 rfl rfl, bg_1 14 (by decide +kernel) rfl, ⟨by decide +kernel, by decide +kernel⟩, by decide +kernel, Nat.le_of_ble_eq_true rfl⟩
theorem ms_J2_length_9d52b : Cond.static yJ2_length_9d52b ∈ BIG := bg_2 201 (by decide +kernel) rfl
set_option maxRecDepth 20000 in
theorem mi_J2_indexOf_4cfef : MI yJ2_indexOf_4cfef cJ2_indexOf_4cfef 4 (some .int) 4 := ⟨bg_3 18 rfl rfl, bg_1 14 (by decide +kernel) rfl, ⟨by decide +kernel, by decide +kernel⟩, by decide +kernel, Nat.le_of_ble_eq_true rfl⟩
theorem ms_J2_indexOf_4cfef : Cond.static yJ2_indexOf_4cfef ∈ BIG := bg_3 17 (by decide +kernel) rfl
set_option maxRecDepth 20000 in
theorem mi_J2_indexOfChar_4cfef : MI yJ2_indexOfChar_4cfef cJ2_indexOfChar_4cfef 4 (some .int) 4 := ⟨bg_3 24 rfl rfl, bg_1 14 (by decide +kernel) rfl, ⟨by decide +kernel, by decide +kernel⟩, by decide +kernel, Nat.le_of_ble_eq_true rfl⟩
theorem ms_J2_indexOfChar_4cfef : Cond.static yJ2_indexOfChar_4cfef ∈ BIG := bg_3 23 (by decide +kernel) rfl
set_option maxRecDepth 20000 in
theorem mi_J2_indexOfCharUnsafe_4cfef : MI yJ2_indexOfCharUnsafe_4cfef cJ2_indexOfCharUnsafe_4cfef 5 (some .int) 4 := ⟨bg_3 36 rfl rfl, bg_1 14 (by decide +kernel) rfl, ⟨by decide +kernel, by decide +kernel⟩, by decide +kernel, Nat.le_of_ble_eq_true rfl⟩
theorem ms_J2_indexOfCharUnsafe_4cfef : Cond.static yJ2_indexOfCharUnsafe_4cfef ∈ BIG := bg_3 35 (by decide +kernel) rfl
set_option maxRecDepth 20000 in
theorem mi_J2_indexOfSupplementary_4cfef : MI yJ2_indexOfSupplementary_4cfef cJ2_indexOfSupplementary_4cfef 7 (some .int) 4 := ⟨bg_3 39 rfl rfl, bg_1 14 (by decide +kernel) rfl, ⟨by decide +kernel, by decide +kernel⟩, by decide +kernel, Nat.le_of_ble_eq_true rfl⟩
theorem ms_J2_indexOfSupplementary_4cfef : Cond.static yJ2_indexOfSupplementary_4cfef ∈ BIG := bg_3 38 (by decide +kernel) rfl
set_option maxRecDepth 20000 in
theorem mi_J2_charAt_3b067 : MI yJ2_charAt_3b067 cJ2_charAt_3b067 2 (some .char) 2 := ⟨bg_2 196 rfl rfl, bg_1 14 (by decide +kernel) rfl, ⟨by decide +kernel, by decide +kernel⟩, by decide +kernel, Nat.le_of_ble_eq_true rfl⟩
theorem ms_J2_charAt_3b067 : Cond.static yJ2_charAt_3b067 ∈ BIG := bg_2 195 (by decide +kernel) rfl
set_option maxRecDepth 20000 in
theorem mi_J2_checkIndex_2214a : MI yJ2_checkIndex_2214a cJ2_checkIndex_2214a 2 none 2 := ⟨bg_2 199 rfl rfl, bg_1 14 (by decide +kernel) rfl, ⟨by decide +kernel, by decide +kernel⟩, by decide +kernel, Nat.le_of_ble_eq_true rfl⟩
theorem ms_J2_checkIndex_2214a : Cond.static yJ2_checkIndex_2214a ∈ BIG := bg_2 198 (by decide +kernel) rfl
set_option maxRecDepth 20000 in
theorem mi_J2_checkBoundsBeginEnd_d044e : MI yJ2_checkBoundsBeginEnd_d044e cJ2_checkBoundsBeginEnd_d044e 3 none 3 := ⟨bg_3 27 rfl rfl, bg_1 14 (by decide +kernel) rfl, ⟨by decide +kernel, by decide +kernel⟩, by decide +kernel, Nat.le_of_ble_eq_true rfl⟩
theorem ms_J2_checkBoundsBeginEnd_d044e : Cond.static yJ2_checkBoundsBeginEnd_d044e ∈ BIG := bg_3 26 (by decide +kernel) rfl
set_option maxRecDepth 20000 in
theorem mi_J3_checkIndex_8e157 : MI yJ3_checkIndex_8e157 cJ3_checkIndex_8e157 3 (some .int) 3 := ⟨bg_2 193 rfl rfl, bg_1 13 (by decide +kernel) rfl, ⟨by decide +kernel, by decide +kernel⟩, by decide +kernel, Nat.le_of_ble_eq_true rfl⟩
theorem ms_J3_checkIndex_8e157 : Cond.static yJ3_checkIndex_8e157 ∈ BIG := bg_2 192 (by decide +kernel) rfl
set_option maxRecDepth 20000 in
theorem mi_J3_checkFromToIndex_8c36e : MI yJ3_checkFromToIndex_8c36e cJ3_checkFromToIndex_8c36e 4 (some .int) 4 := ⟨bg_3 33 rfl rfl, bg_1 13 (by decide +kernel) rfl, ⟨by decide +kernel, by decide +kernel⟩, by decide +kernel, Nat.le_of_ble_eq_true rfl⟩
theorem ms_J3_checkFromToIndex_8c36e : Cond.static yJ3_checkFromToIndex_8c36e ∈ BIG := bg_3 32 (by decide +kernel) rfl
theorem in_0 : Cond.instantiable RX0 5 ∈ BIG := bg_1 100 (by decide +kernel) rfl
theorem iz_0 : Cond.initialized RX0 ∈ BIG := bg_1 4 (by decide +kernel) rfl
theorem in_1 : Cond.instantiable RX1 12 ∈ BIG := bg_1 178 (by decide +kernel) rfl
theorem iz_1 : Cond.initialized RX1 ∈ BIG := bg_1 6 (by decide +kernel) rfl
theorem in_2 : Cond.instantiable RX2 4 ∈ BIG := bg_1 184 (by decide +kernel) rfl
theorem iz_2 : Cond.initialized RX2 ∈ BIG := bg_1 7 (by decide +kernel) rfl
theorem in_3 : Cond.instantiable RX3 10 ∈ BIG := bg_1 125 (by decide +kernel) rfl
theorem iz_3 : Cond.initialized RX3 ∈ BIG := bg_1 5 (by decide +kernel) rfl
theorem in_4 : Cond.instantiable RX4 3 ∈ BIG := bg_2 17 (by decide +kernel) rfl
theorem iz_4 : Cond.initialized RX4 ∈ BIG := bg_1 8 (by decide +kernel) rfl
theorem in_5 : Cond.instantiable RX5 4 ∈ BIG := bg_1 27 (by decide +kernel) rfl
theorem iz_5 : Cond.initialized RX5 ∈ BIG := bg_1 2 (by decide +kernel) rfl
theorem in_6 : Cond.instantiable RX6 12 ∈ BIG := bg_1 51 (by decide +kernel) rfl
theorem iz_6 : Cond.initialized RX6 ∈ BIG := bg_1 3 (by decide +kernel) rfl
theorem in_7 : Cond.instantiable RX7 10 ∈ BIG := bg_1 19 (by decide +kernel) rfl
theorem iz_7 : Cond.initialized RX7 ∈ BIG := bg_1 1 (by decide +kernel) rfl
theorem in_8 : Cond.instantiable RX8 68 ∈ BIG := bg_4 145 (by decide +kernel) rfl
theorem iz_8 : Cond.initialized RX8 ∈ BIG := bg_1 9 (by decide +kernel) rfl
theorem ac_int : Cond.arrayClass .int ∈ BIG := bg_1 97 (by decide +kernel) rfl
theorem ac_byte : Cond.arrayClass .byte ∈ BIG := bg_1 47 (by decide +kernel) rfl
theorem ac_boolean : Cond.arrayClass .boolean ∈ BIG := bg_1 98 (by decide +kernel) rfl
theorem ac_long : Cond.arrayClass .long ∈ BIG := bg_2 35 (by decide +kernel) rfl
theorem w_copy : Cond.native arraycopyName ∈ BIG ∧ Cond.static arraycopyName ∈ BIG ∧ Cond.initialized "java/lang/System" ∈ BIG := ⟨bg_3 109 (by decide +kernel) rfl, bg_3 108 (by decide +kernel) rfl, bg_1 16 (by decide +kernel) rfl⟩
set_option maxRecDepth 20000 in
theorem w_obj : Cond.instanceMethod Lib.objectInit ∈ BIG ∧ Cond.code Lib.objectInit ⟨#[0xb1]⟩ 1 none ∈ BIG := ⟨bg_1 24 (by decide +kernel) rfl, bg_1 25 rfl rfl⟩
