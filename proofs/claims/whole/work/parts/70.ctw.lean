-- constructors: words, decoded instructions
def wsC (y : MethodName) (c : ByteArray) (n : Nat) : List Cond := .code y c n none :: LT
def R_law : String := "CradleBillsLaw"
theorem kw0 : lkQ 142 (.methodLink RX0 3 objectInit) = true := by decide +kernel
theorem kw1 : lkQ 73 (.instanceMethod objectInit) = true := by decide +kernel
theorem kw2 : lkQ 74 (.code objectInit ⟨#[0xb1]⟩ 1 none) = true := by decide +kernel
theorem kw3 : lkQ 143 (.fieldLink RX0 9 "CradleBills$Cradles" "house" "LCradleBills$House;") = true := by decide +kernel
theorem kw4 : lkQ 144 (.fieldLink RX0 15 "CradleBills$Cradles" "now" "LCradleBills$Now;") = true := by decide +kernel
theorem kw5 : lkQ 250 (.methodLink RX1 3 objectInit) = true := by decide +kernel
theorem kw6 : lkQ 251 (.fieldLink RX1 9 "CradleBills$Heard" "size" "I") = true := by decide +kernel
theorem kw7 : lkQ 126 (.arrayClass .int) = true := by decide +kernel
theorem kw8 : lkQ 253 (.fieldLink RX1 15 "CradleBills$Heard" "who" "[I") = true := by decide +kernel
theorem kw9 : lkQ 254 (.fieldLink RX1 19 "CradleBills$Heard" "where" "[I") = true := by decide +kernel
theorem kw10 : lkQ 80 (.methodLink RX2 3 objectInit) = true := by decide +kernel
theorem kw11 : lkQ 81 (.fieldLink RX2 9 "CradleBills$House" "words" "I") = true := by decide +kernel
theorem kw12 : lkQ 84 (.fieldLink RX2 15 "CradleBills$House" "motions" "I") = true := by decide +kernel
theorem kw13 : lkQ 89 (.fieldLink RX2 18 "CradleBills$House" "babies" "I") = true := by decide +kernel
theorem kw14 : lkQ 95 (.fieldLink RX2 21 "CradleBills$House" "loudness" "[I") = true := by decide +kernel
theorem kw15 : lkQ 96 (.fieldLink RX2 25 "CradleBills$House" "lulling" "[I") = true := by decide +kernel
theorem kw16 : lkQ 97 (.fieldLink RX2 28 "CradleBills$House" "worths" "[I") = true := by decide +kernel
theorem kw17 : lkQ 98 (.fieldLink RX2 31 "CradleBills$House" "lengths" "[I") = true := by decide +kernel
theorem kw18 : lkQ 99 (.fieldLink RX2 34 "CradleBills$House" "texts" "[I") = true := by decide +kernel
theorem kw19 : lkQ 100 (.fieldLink RX2 37 "CradleBills$House" "depths" "[I") = true := by decide +kernel
theorem kw20 : lkQ 101 (.fieldLink RX2 40 "CradleBills$House" "earSizes" "[I") = true := by decide +kernel
theorem kw21 : lkQ 102 (.fieldLink RX2 43 "CradleBills$House" "hungers" "[I") = true := by decide +kernel
theorem kw22 : lkQ 267 (.methodLink RX3 3 objectInit) = true := by decide +kernel
theorem kw23 : lkQ 271 (.fieldLink RX3 9 "CradleBills$Kinds" "asked" "J") = true := by decide +kernel
theorem kw24 : lkQ 268 (.fieldLink RX3 15 "CradleBills$Kinds" "house" "LCradleBills$House;") = true := by decide +kernel
theorem kw25 : lkQ 269 (.fieldLink RX3 19 "CradleBills$Kinds" "now" "LCradleBills$Now;") = true := by decide +kernel
theorem kw26 : lkQ 270 (.fieldLink RX3 23 "CradleBills$Kinds" "cradles" "LCradleBills$Cradles;") = true := by decide +kernel
theorem kw27 : lkQ 132 (.methodLink RX4 5 objectInit) = true := by decide +kernel
theorem kw28 : lkQ 133 (.fieldLink RX4 11 "CradleBills$Now" "row" "[I") = true := by decide +kernel
theorem kw29 : lkQ 195 (.methodLink RX5 3 objectInit) = true := by decide +kernel
theorem kw30 : lkQ 199 (.fieldLink RX5 9 "CradleBills$Orders" "left" "[I") = true := by decide +kernel
theorem kw31 : lkQ 200 (.fieldLink RX5 15 "CradleBills$Orders" "order" "[I") = true := by decide +kernel
theorem kw32 : lkQ 196 (.fieldLink RX5 18 "CradleBills$Orders" "house" "LCradleBills$House;") = true := by decide +kernel
theorem kw33 : lkQ 197 (.fieldLink RX5 22 "CradleBills$Orders" "now" "LCradleBills$Now;") = true := by decide +kernel
theorem kw34 : lkQ 198 (.fieldLink RX5 26 "CradleBills$Orders" "cradles" "LCradleBills$Cradles;") = true := by decide +kernel
theorem kw35 : lkQ 178 (.methodLink RX6 1 objectInit) = true := by decide +kernel
theorem kw36 : lkQ 179 (.fieldLink RX6 7 "CradleBills$Past" "known" "I") = true := by decide +kernel
theorem kw37 : lkQ 181 (.fieldLink RX6 13 "CradleBills$Past" "next" "I") = true := by decide +kernel
theorem kw38 : lkQ 182 (.fieldLink RX6 18 "CradleBills$Past" "rows" "[I") = true := by decide +kernel
theorem kw39 : lkQ 217 (.methodLink RX7 3 objectInit) = true := by decide +kernel
theorem kw40 : lkQ 221 (.fieldLink RX7 9 "CradleBills$Plan" "bestWorth" "I") = true := by decide +kernel
theorem kw41 : lkQ 223 (.fieldLink RX7 15 "CradleBills$Plan" "bestCount" "I") = true := by decide +kernel
theorem kw42 : lkQ 225 (.fieldLink RX7 18 "CradleBills$Plan" "best" "[I") = true := by decide +kernel
theorem kw43 : lkQ 226 (.fieldLink RX7 22 "CradleBills$Plan" "row" "[I") = true := by decide +kernel
theorem kw44 : lkQ 227 (.fieldLink RX7 25 "CradleBills$Plan" "carriers" "[I") = true := by decide +kernel
theorem kw45 : lkQ 218 (.fieldLink RX7 28 "CradleBills$Plan" "house" "LCradleBills$House;") = true := by decide +kernel
theorem kw46 : lkQ 219 (.fieldLink RX7 32 "CradleBills$Plan" "now" "LCradleBills$Now;") = true := by decide +kernel
theorem kw47 : lkQ 220 (.fieldLink RX7 36 "CradleBills$Plan" "cradles" "LCradleBills$Cradles;") = true := by decide +kernel
theorem kw48 : lkQ 155 (.methodLink RX8 3 objectInit) = true := by decide +kernel
theorem kw49 : lkQ 156 (.fieldLink RX8 9 "CradleBills$Teller" "letters" "I") = true := by decide +kernel
theorem kw50 : lkQ 158 (.fieldLink RX8 15 "CradleBills$Teller" "text" "[I") = true := by decide +kernel
theorem kw51 : lkQ 159 (.fieldLink RX8 19 "CradleBills$Teller" "numbers" "[I") = true := by decide +kernel
theorem kw52 : lkQ 160 (.fieldLink RX8 22 "CradleBills$Teller" "item" "I") = true := by decide +kernel
theorem kw53 : lkQ 161 (.fieldLink RX8 25 "CradleBills$Teller" "got" "I") = true := by decide +kernel
theorem kw54 : lkQ 72 (.methodLink RX9 1 objectInit) = true := by decide +kernel
theorem kw55 : lkQ 75 (.classLink RX9 7 RX2) = true := by decide +kernel
theorem kw56 : lkQ 76 (.instantiable RX2 11) = true := by decide +kernel
theorem kw57 : lkQ 53 (.initialized RX2) = true := by decide +kernel
theorem kw58 : lkQ 79 (.code yX2_init cX2_init 1 none) = true := by decide +kernel
theorem kw59 : lkQ 78 (.instanceMethod yX2_init) = true := by decide +kernel
theorem kw60 : lkQ 127 (.classLink RX9 10 RX4) = true := by decide +kernel
theorem kw61 : lkQ 128 (.instantiable RX4 1) = true := by decide +kernel
theorem kw62 : lkQ 54 (.initialized RX4) = true := by decide +kernel
theorem kw63 : lkQ 131 (.code yX4_init cX4_init 1 none) = true := by decide +kernel
theorem kw64 : lkQ 130 (.instanceMethod yX4_init) = true := by decide +kernel
theorem kw65 : lkQ 137 (.classLink RX9 13 RX0) = true := by decide +kernel
theorem kw66 : lkQ 138 (.instantiable RX0 2) = true := by decide +kernel
theorem kw67 : lkQ 55 (.initialized RX0) = true := by decide +kernel
theorem kw68 : lkQ 141 (.code yX0_init cX0_init 3 none) = true := by decide +kernel
theorem kw69 : lkQ 139 (.methodLink RX9 15 yX0_init) = true := by decide +kernel
theorem kw70 : lkQ 140 (.instanceMethod yX0_init) = true := by decide +kernel
theorem kw71 : lkQ 282 (.fieldLink RX9 18 "CradleBills" "told" "LCradleBills$House;") = true := by decide +kernel
theorem kw72 : lkQ 283 (.fieldLink RX9 24 "CradleBills" "draft" "LCradleBills$House;") = true := by decide +kernel
theorem kw73 : lkQ 150 (.classLink RX9 27 RX8) = true := by decide +kernel
theorem kw74 : lkQ 151 (.instantiable RX8 5) = true := by decide +kernel
theorem kw75 : lkQ 56 (.initialized RX8) = true := by decide +kernel
theorem kw76 : lkQ 154 (.code yX8_init cX8_init 1 none) = true := by decide +kernel
theorem kw77 : lkQ 153 (.instanceMethod yX8_init) = true := by decide +kernel
theorem kw78 : lkQ 284 (.fieldLink RX9 30 "CradleBills" "teller" "LCradleBills$Teller;") = true := by decide +kernel
theorem kw79 : lkQ 285 (.fieldLink RX9 34 "CradleBills" "current" "LCradleBills$Now;") = true := by decide +kernel
theorem kw80 : lkQ 173 (.classLink RX9 38 RX6) = true := by decide +kernel
theorem kw81 : lkQ 174 (.instantiable RX6 3) = true := by decide +kernel
theorem kw82 : lkQ 57 (.initialized RX6) = true := by decide +kernel
theorem kw83 : lkQ 177 (.code yX6_init cX6_init 1 none) = true := by decide +kernel
theorem kw84 : lkQ 176 (.instanceMethod yX6_init) = true := by decide +kernel
theorem kw85 : lkQ 286 (.fieldLink RX9 41 "CradleBills" "past" "LCradleBills$Past;") = true := by decide +kernel
theorem kw86 : lkQ 287 (.fieldLink RX9 45 "CradleBills" "images" "[I") = true := by decide +kernel
theorem kw87 : lkQ 288 (.fieldLink RX9 49 "CradleBills" "keptImages" "I") = true := by decide +kernel
theorem kw88 : lkQ 289 (.fieldLink RX9 53 "CradleBills" "cradles" "LCradleBills$Cradles;") = true := by decide +kernel
theorem kw89 : lkQ 190 (.classLink RX9 57 RX5) = true := by decide +kernel
theorem kw90 : lkQ 191 (.instantiable RX5 5) = true := by decide +kernel
theorem kw91 : lkQ 58 (.initialized RX5) = true := by decide +kernel
theorem kw92 : lkQ 194 (.code yX5_init cX5_init 4 none) = true := by decide +kernel
theorem kw93 : lkQ 192 (.methodLink RX9 59 yX5_init) = true := by decide +kernel
theorem kw94 : lkQ 193 (.instanceMethod yX5_init) = true := by decide +kernel
theorem kw95 : lkQ 290 (.fieldLink RX9 62 "CradleBills" "orders" "LCradleBills$Orders;") = true := by decide +kernel
theorem kw96 : lkQ 212 (.classLink RX9 66 RX7) = true := by decide +kernel
theorem kw97 : lkQ 213 (.instantiable RX7 8) = true := by decide +kernel
theorem kw98 : lkQ 59 (.initialized RX7) = true := by decide +kernel
theorem kw99 : lkQ 216 (.code yX7_init cX7_init 4 none) = true := by decide +kernel
theorem kw100 : lkQ 214 (.methodLink RX9 68 yX7_init) = true := by decide +kernel
theorem kw101 : lkQ 215 (.instanceMethod yX7_init) = true := by decide +kernel
theorem kw102 : lkQ 291 (.fieldLink RX9 69 "CradleBills" "plan" "LCradleBills$Plan;") = true := by decide +kernel
theorem kw103 : lkQ 245 (.classLink RX9 73 RX1) = true := by decide +kernel
theorem kw104 : lkQ 246 (.instantiable RX1 3) = true := by decide +kernel
theorem kw105 : lkQ 60 (.initialized RX1) = true := by decide +kernel
theorem kw106 : lkQ 249 (.code yX1_init cX1_init 1 none) = true := by decide +kernel
theorem kw107 : lkQ 248 (.instanceMethod yX1_init) = true := by decide +kernel
theorem kw108 : lkQ 292 (.fieldLink RX9 76 "CradleBills" "heard" "LCradleBills$Heard;") = true := by decide +kernel
theorem kw109 : lkQ 262 (.classLink RX9 80 RX3) = true := by decide +kernel
theorem kw110 : lkQ 263 (.instantiable RX3 4) = true := by decide +kernel
theorem kw111 : lkQ 61 (.initialized RX3) = true := by decide +kernel
theorem kw112 : lkQ 266 (.code yX3_init cX3_init 4 none) = true := by decide +kernel
theorem kw113 : lkQ 264 (.methodLink RX9 82 yX3_init) = true := by decide +kernel
theorem kw114 : lkQ 265 (.instanceMethod yX3_init) = true := by decide +kernel
theorem kw115 : lkQ 293 (.fieldLink RX9 83 "CradleBills" "kinds" "LCradleBills$Kinds;") = true := by decide +kernel
theorem kw116 : lkQ 840 (.methodLink RX10 1 objectInit) = true := by decide +kernel
theorem kw117 : lkQ 842 (.fieldLink RX10 7 "CradleBillsModel" "word" "[I") = true := by decide +kernel
theorem kw118 : lkQ 844 (.fieldLink RX10 13 "CradleBillsModel" "motion" "[I") = true := by decide +kernel
theorem kw119 : lkQ 846 (.fieldLink RX10 16 "CradleBillsModel" "baby" "[I") = true := by decide +kernel
theorem kw120 : lkQ 847 (.fieldLink RX10 19 "CradleBillsModel" "st" "[I") = true := by decide +kernel
theorem kw121 : lkQ 848 (.fieldLink RX10 22 "CradleBillsModel" "was" "[I") = true := by decide +kernel
theorem kw122 : lkQ 850 (.fieldLink RX10 25 "CradleBillsModel" "images" "[I") = true := by decide +kernel
theorem kw123 : lkQ 965 (.arrayClass .boolean) = true := by decide +kernel
theorem kw124 : lkQ 851 (.fieldLink RX10 28 "CradleBillsModel" "isKept" "[Z") = true := by decide +kernel
theorem kw125 : lkQ 853 (.fieldLink RX10 32 "CradleBillsModel" "heard" "[I") = true := by decide +kernel
theorem kw126 : lkQ 855 (.fieldLink RX10 35 "CradleBillsModel" "text" "[I") = true := by decide +kernel
theorem kw127 : lkQ 864 (.fieldLink RX10 38 "CradleBillsModel" "saidWord" "[I") = true := by decide +kernel
theorem kw128 : lkQ 866 (.fieldLink RX10 41 "CradleBillsModel" "saidMotion" "[I") = true := by decide +kernel
theorem kw129 : lkQ 868 (.fieldLink RX10 44 "CradleBillsModel" "saidBaby" "[I") = true := by decide +kernel
theorem kw130 : lkQ 869 (.fieldLink RX10 47 "CradleBillsModel" "saidDepth" "[I") = true := by decide +kernel
theorem kw131 : lkQ 871 (.fieldLink RX10 50 "CradleBillsModel" "row" "[I") = true := by decide +kernel
theorem kw132 : lkQ 872 (.fieldLink RX10 53 "CradleBillsModel" "louder" "[I") = true := by decide +kernel
theorem kw133 : lkQ 874 (.fieldLink RX10 56 "CradleBillsModel" "worth" "[I") = true := by decide +kernel
theorem kw134 : lkQ 875 (.fieldLink RX10 59 "CradleBillsModel" "gives" "[I") = true := by decide +kernel
theorem kw135 : lkQ 876 (.fieldLink RX10 62 "CradleBillsModel" "bestGives" "[I") = true := by decide +kernel
theorem kw136 : lkQ 878 (.fieldLink RX10 65 "CradleBillsModel" "agenda" "[I") = true := by decide +kernel
theorem kw137 : lkQ 879 (.fieldLink RX10 68 "CradleBillsModel" "depths" "[I") = true := by decide +kernel
theorem kw138 : lkQ 880 (.fieldLink RX10 71 "CradleBillsModel" "best" "[I") = true := by decide +kernel
theorem kw139 : lkQ 67 (.classLink R_law 7 RX9) = true := by decide +kernel
theorem kw140 : lkQ 835 (.classLink R_law 10 RX10) = true := by decide +kernel
theorem kw141 : lkQ 69 (.methodLink R_law 9 yX9_init) = true := by decide +kernel
theorem kw142 : lkQ 837 (.methodLink R_law 12 yX10_init) = true := by decide +kernel
theorem kw143 : lkQ 71 (.code yX9_init cX9_init 4 none) = true := by decide +kernel
theorem kw144 : lkQ 70 (.instanceMethod yX9_init) = true := by decide +kernel
theorem kw145 : lkQ 52 (.initialized RX9) = true := by decide +kernel
theorem kw146 : lkQ 68 (.instantiable RX9 12) = true := by decide +kernel
theorem kw147 : lkQ 839 (.code yX10_init cX10_init 1 none) = true := by decide +kernel
theorem kw148 : lkQ 838 (.instanceMethod yX10_init) = true := by decide +kernel
theorem kw149 : lkQ 62 (.initialized RX10) = true := by decide +kernel
theorem kw150 : lkQ 836 (.instantiable RX10 41) = true := by decide +kernel
theorem dkX0_0 : decode cX0_init 0 = .ok (.aload_n 0, 1) := by decide +kernel
theorem dkX0_1 : decode cX0_init 1 = .ok (.invokespecial 3, 3) := by decide +kernel
theorem dkX0_4 : decode cX0_init 4 = .ok (.aload_n 0, 1) := by decide +kernel
theorem dkX0_5 : decode cX0_init 5 = .ok (.aload_n 1, 1) := by decide +kernel
theorem dkX0_6 : decode cX0_init 6 = .ok (.putfield 9, 3) := by decide +kernel
theorem dkX0_9 : decode cX0_init 9 = .ok (.aload_n 0, 1) := by decide +kernel
theorem dkX0_10 : decode cX0_init 10 = .ok (.aload_n 2, 1) := by decide +kernel
theorem dkX0_11 : decode cX0_init 11 = .ok (.putfield 15, 3) := by decide +kernel
theorem dkX0_14 : decode cX0_init 14 = .ok (.return_, 1) := by decide +kernel
theorem dkX1_0 : decode cX1_init 0 = .ok (.aload_n 0, 1) := by decide +kernel
theorem dkX1_1 : decode cX1_init 1 = .ok (.invokespecial 3, 3) := by decide +kernel
theorem dkX1_4 : decode cX1_init 4 = .ok (.aload_n 0, 1) := by decide +kernel
theorem dkX1_5 : decode cX1_init 5 = .ok (.iconst 0, 1) := by decide +kernel
theorem dkX1_6 : decode cX1_init 6 = .ok (.putfield 9, 3) := by decide +kernel
theorem dkX1_9 : decode cX1_init 9 = .ok (.aload_n 0, 1) := by decide +kernel
theorem dkX1_10 : decode cX1_init 10 = .ok (.bipush 6, 2) := by decide +kernel
theorem dkX1_12 : decode cX1_init 12 = .ok (.newarray .int, 2) := by decide +kernel
theorem dkX1_14 : decode cX1_init 14 = .ok (.putfield 15, 3) := by decide +kernel
theorem dkX1_17 : decode cX1_init 17 = .ok (.aload_n 0, 1) := by decide +kernel
theorem dkX1_18 : decode cX1_init 18 = .ok (.bipush 6, 2) := by decide +kernel
theorem dkX1_20 : decode cX1_init 20 = .ok (.newarray .int, 2) := by decide +kernel
theorem dkX1_22 : decode cX1_init 22 = .ok (.putfield 19, 3) := by decide +kernel
theorem dkX1_25 : decode cX1_init 25 = .ok (.return_, 1) := by decide +kernel
theorem dkX2_0 : decode cX2_init 0 = .ok (.aload_n 0, 1) := by decide +kernel
theorem dkX2_1 : decode cX2_init 1 = .ok (.invokespecial 3, 3) := by decide +kernel
theorem dkX2_4 : decode cX2_init 4 = .ok (.aload_n 0, 1) := by decide +kernel
theorem dkX2_5 : decode cX2_init 5 = .ok (.iconst 0, 1) := by decide +kernel
theorem dkX2_6 : decode cX2_init 6 = .ok (.putfield 9, 3) := by decide +kernel
theorem dkX2_9 : decode cX2_init 9 = .ok (.aload_n 0, 1) := by decide +kernel
theorem dkX2_10 : decode cX2_init 10 = .ok (.iconst 0, 1) := by decide +kernel
theorem dkX2_11 : decode cX2_init 11 = .ok (.putfield 15, 3) := by decide +kernel
theorem dkX2_14 : decode cX2_init 14 = .ok (.aload_n 0, 1) := by decide +kernel
theorem dkX2_15 : decode cX2_init 15 = .ok (.iconst 0, 1) := by decide +kernel
theorem dkX2_16 : decode cX2_init 16 = .ok (.putfield 18, 3) := by decide +kernel
theorem dkX2_19 : decode cX2_init 19 = .ok (.aload_n 0, 1) := by decide +kernel
theorem dkX2_20 : decode cX2_init 20 = .ok (.bipush 6, 2) := by decide +kernel
theorem dkX2_22 : decode cX2_init 22 = .ok (.newarray .int, 2) := by decide +kernel
theorem dkX2_24 : decode cX2_init 24 = .ok (.putfield 21, 3) := by decide +kernel
theorem dkX2_27 : decode cX2_init 27 = .ok (.aload_n 0, 1) := by decide +kernel
theorem dkX2_28 : decode cX2_init 28 = .ok (.bipush 6, 2) := by decide +kernel
theorem dkX2_30 : decode cX2_init 30 = .ok (.newarray .int, 2) := by decide +kernel
theorem dkX2_32 : decode cX2_init 32 = .ok (.putfield 25, 3) := by decide +kernel
theorem dkX2_35 : decode cX2_init 35 = .ok (.aload_n 0, 1) := by decide +kernel
theorem dkX2_36 : decode cX2_init 36 = .ok (.iconst 5, 1) := by decide +kernel
theorem dkX2_37 : decode cX2_init 37 = .ok (.newarray .int, 2) := by decide +kernel
theorem dkX2_39 : decode cX2_init 39 = .ok (.putfield 28, 3) := by decide +kernel
theorem dkX2_42 : decode cX2_init 42 = .ok (.aload_n 0, 1) := by decide +kernel
theorem dkX2_43 : decode cX2_init 43 = .ok (.iconst 5, 1) := by decide +kernel
theorem dkX2_44 : decode cX2_init 44 = .ok (.newarray .int, 2) := by decide +kernel
theorem dkX2_46 : decode cX2_init 46 = .ok (.putfield 31, 3) := by decide +kernel
theorem dkX2_49 : decode cX2_init 49 = .ok (.aload_n 0, 1) := by decide +kernel
theorem dkX2_50 : decode cX2_init 50 = .ok (.bipush 30, 2) := by decide +kernel
theorem dkX2_52 : decode cX2_init 52 = .ok (.newarray .int, 2) := by decide +kernel
theorem dkX2_54 : decode cX2_init 54 = .ok (.putfield 34, 3) := by decide +kernel
theorem dkX2_57 : decode cX2_init 57 = .ok (.aload_n 0, 1) := by decide +kernel
theorem dkX2_58 : decode cX2_init 58 = .ok (.iconst 4, 1) := by decide +kernel
theorem dkX2_59 : decode cX2_init 59 = .ok (.newarray .int, 2) := by decide +kernel
theorem dkX2_61 : decode cX2_init 61 = .ok (.putfield 37, 3) := by decide +kernel
theorem dkX2_64 : decode cX2_init 64 = .ok (.aload_n 0, 1) := by decide +kernel
theorem dkX2_65 : decode cX2_init 65 = .ok (.iconst 4, 1) := by decide +kernel
theorem dkX2_66 : decode cX2_init 66 = .ok (.newarray .int, 2) := by decide +kernel
theorem dkX2_68 : decode cX2_init 68 = .ok (.putfield 40, 3) := by decide +kernel
theorem dkX2_71 : decode cX2_init 71 = .ok (.aload_n 0, 1) := by decide +kernel
theorem dkX2_72 : decode cX2_init 72 = .ok (.iconst 4, 1) := by decide +kernel
theorem dkX2_73 : decode cX2_init 73 = .ok (.newarray .int, 2) := by decide +kernel
theorem dkX2_75 : decode cX2_init 75 = .ok (.putfield 43, 3) := by decide +kernel
theorem dkX2_78 : decode cX2_init 78 = .ok (.return_, 1) := by decide +kernel
theorem dkX3_0 : decode cX3_init 0 = .ok (.aload_n 0, 1) := by decide +kernel
theorem dkX3_1 : decode cX3_init 1 = .ok (.invokespecial 3, 3) := by decide +kernel
theorem dkX3_4 : decode cX3_init 4 = .ok (.aload_n 0, 1) := by decide +kernel
theorem dkX3_5 : decode cX3_init 5 = .ok (.lconst 0, 1) := by decide +kernel
theorem dkX3_6 : decode cX3_init 6 = .ok (.putfield 9, 3) := by decide +kernel
theorem dkX3_9 : decode cX3_init 9 = .ok (.aload_n 0, 1) := by decide +kernel
theorem dkX3_10 : decode cX3_init 10 = .ok (.aload_n 1, 1) := by decide +kernel
theorem dkX3_11 : decode cX3_init 11 = .ok (.putfield 15, 3) := by decide +kernel
theorem dkX3_14 : decode cX3_init 14 = .ok (.aload_n 0, 1) := by decide +kernel
theorem dkX3_15 : decode cX3_init 15 = .ok (.aload_n 2, 1) := by decide +kernel
theorem dkX3_16 : decode cX3_init 16 = .ok (.putfield 19, 3) := by decide +kernel
theorem dkX3_19 : decode cX3_init 19 = .ok (.aload_n 0, 1) := by decide +kernel
theorem dkX3_20 : decode cX3_init 20 = .ok (.aload_n 3, 1) := by decide +kernel
theorem dkX3_21 : decode cX3_init 21 = .ok (.putfield 23, 3) := by decide +kernel
theorem dkX3_24 : decode cX3_init 24 = .ok (.return_, 1) := by decide +kernel
theorem dkX4_0 : decode cX4_init 0 = .ok (.aload_n 0, 1) := by decide +kernel
theorem dkX4_1 : decode cX4_init 1 = .ok (.invokespecial 5, 3) := by decide +kernel
theorem dkX4_4 : decode cX4_init 4 = .ok (.aload_n 0, 1) := by decide +kernel
theorem dkX4_5 : decode cX4_init 5 = .ok (.bipush 11, 2) := by decide +kernel
theorem dkX4_7 : decode cX4_init 7 = .ok (.newarray .int, 2) := by decide +kernel
theorem dkX4_9 : decode cX4_init 9 = .ok (.putfield 11, 3) := by decide +kernel
theorem dkX4_12 : decode cX4_init 12 = .ok (.return_, 1) := by decide +kernel
theorem dkX5_0 : decode cX5_init 0 = .ok (.aload_n 0, 1) := by decide +kernel
theorem dkX5_1 : decode cX5_init 1 = .ok (.invokespecial 3, 3) := by decide +kernel
theorem dkX5_4 : decode cX5_init 4 = .ok (.aload_n 0, 1) := by decide +kernel
theorem dkX5_5 : decode cX5_init 5 = .ok (.bipush 6, 2) := by decide +kernel
theorem dkX5_7 : decode cX5_init 7 = .ok (.newarray .int, 2) := by decide +kernel
theorem dkX5_9 : decode cX5_init 9 = .ok (.putfield 9, 3) := by decide +kernel
theorem dkX5_12 : decode cX5_init 12 = .ok (.aload_n 0, 1) := by decide +kernel
theorem dkX5_13 : decode cX5_init 13 = .ok (.bipush 6, 2) := by decide +kernel
theorem dkX5_15 : decode cX5_init 15 = .ok (.newarray .int, 2) := by decide +kernel
theorem dkX5_17 : decode cX5_init 17 = .ok (.putfield 15, 3) := by decide +kernel
theorem dkX5_20 : decode cX5_init 20 = .ok (.aload_n 0, 1) := by decide +kernel
theorem dkX5_21 : decode cX5_init 21 = .ok (.aload_n 1, 1) := by decide +kernel
theorem dkX5_22 : decode cX5_init 22 = .ok (.putfield 18, 3) := by decide +kernel
theorem dkX5_25 : decode cX5_init 25 = .ok (.aload_n 0, 1) := by decide +kernel
theorem dkX5_26 : decode cX5_init 26 = .ok (.aload_n 2, 1) := by decide +kernel
theorem dkX5_27 : decode cX5_init 27 = .ok (.putfield 22, 3) := by decide +kernel
theorem dkX5_30 : decode cX5_init 30 = .ok (.aload_n 0, 1) := by decide +kernel
theorem dkX5_31 : decode cX5_init 31 = .ok (.aload_n 3, 1) := by decide +kernel
theorem dkX5_32 : decode cX5_init 32 = .ok (.putfield 26, 3) := by decide +kernel
theorem dkX5_35 : decode cX5_init 35 = .ok (.return_, 1) := by decide +kernel
theorem dkX6_0 : decode cX6_init 0 = .ok (.aload_n 0, 1) := by decide +kernel
theorem dkX6_1 : decode cX6_init 1 = .ok (.invokespecial 1, 3) := by decide +kernel
theorem dkX6_4 : decode cX6_init 4 = .ok (.aload_n 0, 1) := by decide +kernel
theorem dkX6_5 : decode cX6_init 5 = .ok (.iconst 0, 1) := by decide +kernel
theorem dkX6_6 : decode cX6_init 6 = .ok (.putfield 7, 3) := by decide +kernel
theorem dkX6_9 : decode cX6_init 9 = .ok (.aload_n 0, 1) := by decide +kernel
theorem dkX6_10 : decode cX6_init 10 = .ok (.iconst 0, 1) := by decide +kernel
theorem dkX6_11 : decode cX6_init 11 = .ok (.putfield 13, 3) := by decide +kernel
theorem dkX6_14 : decode cX6_init 14 = .ok (.aload_n 0, 1) := by decide +kernel
theorem dkX6_15 : decode cX6_init 15 = .ok (.bipush 110, 2) := by decide +kernel
theorem dkX6_17 : decode cX6_init 17 = .ok (.newarray .int, 2) := by decide +kernel
theorem dkX6_19 : decode cX6_init 19 = .ok (.putfield 18, 3) := by decide +kernel
theorem dkX6_22 : decode cX6_init 22 = .ok (.return_, 1) := by decide +kernel
theorem dkX7_0 : decode cX7_init 0 = .ok (.aload_n 0, 1) := by decide +kernel
theorem dkX7_1 : decode cX7_init 1 = .ok (.invokespecial 3, 3) := by decide +kernel
theorem dkX7_4 : decode cX7_init 4 = .ok (.aload_n 0, 1) := by decide +kernel
theorem dkX7_5 : decode cX7_init 5 = .ok (.iconst 0, 1) := by decide +kernel
theorem dkX7_6 : decode cX7_init 6 = .ok (.putfield 9, 3) := by decide +kernel
theorem dkX7_9 : decode cX7_init 9 = .ok (.aload_n 0, 1) := by decide +kernel
theorem dkX7_10 : decode cX7_init 10 = .ok (.iconst 0, 1) := by decide +kernel
theorem dkX7_11 : decode cX7_init 11 = .ok (.putfield 15, 3) := by decide +kernel
theorem dkX7_14 : decode cX7_init 14 = .ok (.aload_n 0, 1) := by decide +kernel
theorem dkX7_15 : decode cX7_init 15 = .ok (.iconst 5, 1) := by decide +kernel
theorem dkX7_16 : decode cX7_init 16 = .ok (.newarray .int, 2) := by decide +kernel
theorem dkX7_18 : decode cX7_init 18 = .ok (.putfield 18, 3) := by decide +kernel
theorem dkX7_21 : decode cX7_init 21 = .ok (.aload_n 0, 1) := by decide +kernel
theorem dkX7_22 : decode cX7_init 22 = .ok (.iconst 5, 1) := by decide +kernel
theorem dkX7_23 : decode cX7_init 23 = .ok (.newarray .int, 2) := by decide +kernel
theorem dkX7_25 : decode cX7_init 25 = .ok (.putfield 22, 3) := by decide +kernel
theorem dkX7_28 : decode cX7_init 28 = .ok (.aload_n 0, 1) := by decide +kernel
theorem dkX7_29 : decode cX7_init 29 = .ok (.iconst 5, 1) := by decide +kernel
theorem dkX7_30 : decode cX7_init 30 = .ok (.newarray .int, 2) := by decide +kernel
theorem dkX7_32 : decode cX7_init 32 = .ok (.putfield 25, 3) := by decide +kernel
theorem dkX7_35 : decode cX7_init 35 = .ok (.aload_n 0, 1) := by decide +kernel
theorem dkX7_36 : decode cX7_init 36 = .ok (.aload_n 1, 1) := by decide +kernel
theorem dkX7_37 : decode cX7_init 37 = .ok (.putfield 28, 3) := by decide +kernel
theorem dkX7_40 : decode cX7_init 40 = .ok (.aload_n 0, 1) := by decide +kernel
theorem dkX7_41 : decode cX7_init 41 = .ok (.aload_n 2, 1) := by decide +kernel
theorem dkX7_42 : decode cX7_init 42 = .ok (.putfield 32, 3) := by decide +kernel
theorem dkX7_45 : decode cX7_init 45 = .ok (.aload_n 0, 1) := by decide +kernel
theorem dkX7_46 : decode cX7_init 46 = .ok (.aload_n 3, 1) := by decide +kernel
theorem dkX7_47 : decode cX7_init 47 = .ok (.putfield 36, 3) := by decide +kernel
theorem dkX7_50 : decode cX7_init 50 = .ok (.return_, 1) := by decide +kernel
theorem dkX8_0 : decode cX8_init 0 = .ok (.aload_n 0, 1) := by decide +kernel
theorem dkX8_1 : decode cX8_init 1 = .ok (.invokespecial 3, 3) := by decide +kernel
theorem dkX8_4 : decode cX8_init 4 = .ok (.aload_n 0, 1) := by decide +kernel
theorem dkX8_5 : decode cX8_init 5 = .ok (.iconst 0, 1) := by decide +kernel
theorem dkX8_6 : decode cX8_init 6 = .ok (.putfield 9, 3) := by decide +kernel
theorem dkX8_9 : decode cX8_init 9 = .ok (.aload_n 0, 1) := by decide +kernel
theorem dkX8_10 : decode cX8_init 10 = .ok (.sipush 200, 3) := by decide +kernel
theorem dkX8_13 : decode cX8_init 13 = .ok (.newarray .int, 2) := by decide +kernel
theorem dkX8_15 : decode cX8_init 15 = .ok (.putfield 15, 3) := by decide +kernel
theorem dkX8_18 : decode cX8_init 18 = .ok (.aload_n 0, 1) := by decide +kernel
theorem dkX8_19 : decode cX8_init 19 = .ok (.bipush 7, 2) := by decide +kernel
theorem dkX8_21 : decode cX8_init 21 = .ok (.newarray .int, 2) := by decide +kernel
theorem dkX8_23 : decode cX8_init 23 = .ok (.putfield 19, 3) := by decide +kernel
theorem dkX8_26 : decode cX8_init 26 = .ok (.aload_n 0, 1) := by decide +kernel
theorem dkX8_27 : decode cX8_init 27 = .ok (.iconst 0, 1) := by decide +kernel
theorem dkX8_28 : decode cX8_init 28 = .ok (.putfield 22, 3) := by decide +kernel
theorem dkX8_31 : decode cX8_init 31 = .ok (.aload_n 0, 1) := by decide +kernel
theorem dkX8_32 : decode cX8_init 32 = .ok (.iconst 0, 1) := by decide +kernel
theorem dkX8_33 : decode cX8_init 33 = .ok (.putfield 25, 3) := by decide +kernel
theorem dkX8_36 : decode cX8_init 36 = .ok (.return_, 1) := by decide +kernel
theorem dkX9_0 : decode cX9_init 0 = .ok (.aload_n 0, 1) := by decide +kernel
theorem dkX9_1 : decode cX9_init 1 = .ok (.invokespecial 1, 3) := by decide +kernel
theorem dkX9_4 : decode cX9_init 4 = .ok (.new 7, 3) := by decide +kernel
theorem dkX9_7 : decode cX9_init 7 = .ok (.dup, 1) := by decide +kernel
theorem dkX9_8 : decode cX9_init 8 = .ok (.invokespecial 9, 3) := by decide +kernel
theorem dkX9_11 : decode cX9_init 11 = .ok (.astore_n 1, 1) := by decide +kernel
theorem dkX9_12 : decode cX9_init 12 = .ok (.new 10, 3) := by decide +kernel
theorem dkX9_15 : decode cX9_init 15 = .ok (.dup, 1) := by decide +kernel
theorem dkX9_16 : decode cX9_init 16 = .ok (.invokespecial 12, 3) := by decide +kernel
theorem dkX9_19 : decode cX9_init 19 = .ok (.astore_n 2, 1) := by decide +kernel
theorem dkX9_20 : decode cX9_init 20 = .ok (.new 13, 3) := by decide +kernel
theorem dkX9_23 : decode cX9_init 23 = .ok (.dup, 1) := by decide +kernel
theorem dkX9_24 : decode cX9_init 24 = .ok (.aload_n 1, 1) := by decide +kernel
theorem dkX9_25 : decode cX9_init 25 = .ok (.aload_n 2, 1) := by decide +kernel
theorem dkX9_26 : decode cX9_init 26 = .ok (.invokespecial 15, 3) := by decide +kernel
theorem dkX9_29 : decode cX9_init 29 = .ok (.astore_n 3, 1) := by decide +kernel
theorem dkX9_30 : decode cX9_init 30 = .ok (.aload_n 0, 1) := by decide +kernel
theorem dkX9_31 : decode cX9_init 31 = .ok (.aload_n 1, 1) := by decide +kernel
theorem dkX9_32 : decode cX9_init 32 = .ok (.putfield 18, 3) := by decide +kernel
theorem dkX9_35 : decode cX9_init 35 = .ok (.aload_n 0, 1) := by decide +kernel
theorem dkX9_36 : decode cX9_init 36 = .ok (.new 7, 3) := by decide +kernel
theorem dkX9_39 : decode cX9_init 39 = .ok (.dup, 1) := by decide +kernel
theorem dkX9_40 : decode cX9_init 40 = .ok (.invokespecial 9, 3) := by decide +kernel
theorem dkX9_43 : decode cX9_init 43 = .ok (.putfield 24, 3) := by decide +kernel
theorem dkX9_46 : decode cX9_init 46 = .ok (.aload_n 0, 1) := by decide +kernel
theorem dkX9_47 : decode cX9_init 47 = .ok (.new 27, 3) := by decide +kernel
theorem dkX9_50 : decode cX9_init 50 = .ok (.dup, 1) := by decide +kernel
theorem dkX9_51 : decode cX9_init 51 = .ok (.invokespecial 29, 3) := by decide +kernel
theorem dkX9_54 : decode cX9_init 54 = .ok (.putfield 30, 3) := by decide +kernel
theorem dkX9_57 : decode cX9_init 57 = .ok (.aload_n 0, 1) := by decide +kernel
theorem dkX9_58 : decode cX9_init 58 = .ok (.aload_n 2, 1) := by decide +kernel
theorem dkX9_59 : decode cX9_init 59 = .ok (.putfield 34, 3) := by decide +kernel
theorem dkX9_62 : decode cX9_init 62 = .ok (.aload_n 0, 1) := by decide +kernel
theorem dkX9_63 : decode cX9_init 63 = .ok (.new 38, 3) := by decide +kernel
theorem dkX9_66 : decode cX9_init 66 = .ok (.dup, 1) := by decide +kernel
theorem dkX9_67 : decode cX9_init 67 = .ok (.invokespecial 40, 3) := by decide +kernel
theorem dkX9_70 : decode cX9_init 70 = .ok (.putfield 41, 3) := by decide +kernel
theorem dkX9_73 : decode cX9_init 73 = .ok (.aload_n 0, 1) := by decide +kernel
theorem dkX9_74 : decode cX9_init 74 = .ok (.bipush 22, 2) := by decide +kernel
theorem dkX9_76 : decode cX9_init 76 = .ok (.newarray .int, 2) := by decide +kernel
theorem dkX9_78 : decode cX9_init 78 = .ok (.putfield 45, 3) := by decide +kernel
theorem dkX9_81 : decode cX9_init 81 = .ok (.aload_n 0, 1) := by decide +kernel
theorem dkX9_82 : decode cX9_init 82 = .ok (.iconst 0, 1) := by decide +kernel
theorem dkX9_83 : decode cX9_init 83 = .ok (.putfield 49, 3) := by decide +kernel
theorem dkX9_86 : decode cX9_init 86 = .ok (.aload_n 0, 1) := by decide +kernel
theorem dkX9_87 : decode cX9_init 87 = .ok (.aload_n 3, 1) := by decide +kernel
theorem dkX9_88 : decode cX9_init 88 = .ok (.putfield 53, 3) := by decide +kernel
theorem dkX9_91 : decode cX9_init 91 = .ok (.aload_n 0, 1) := by decide +kernel
theorem dkX9_92 : decode cX9_init 92 = .ok (.new 57, 3) := by decide +kernel
theorem dkX9_95 : decode cX9_init 95 = .ok (.dup, 1) := by decide +kernel
theorem dkX9_96 : decode cX9_init 96 = .ok (.aload_n 1, 1) := by decide +kernel
theorem dkX9_97 : decode cX9_init 97 = .ok (.aload_n 2, 1) := by decide +kernel
theorem dkX9_98 : decode cX9_init 98 = .ok (.aload_n 3, 1) := by decide +kernel
theorem dkX9_99 : decode cX9_init 99 = .ok (.invokespecial 59, 3) := by decide +kernel
theorem dkX9_102 : decode cX9_init 102 = .ok (.putfield 62, 3) := by decide +kernel
theorem dkX9_105 : decode cX9_init 105 = .ok (.aload_n 0, 1) := by decide +kernel
theorem dkX9_106 : decode cX9_init 106 = .ok (.new 66, 3) := by decide +kernel
theorem dkX9_109 : decode cX9_init 109 = .ok (.dup, 1) := by decide +kernel
theorem dkX9_110 : decode cX9_init 110 = .ok (.aload_n 1, 1) := by decide +kernel
theorem dkX9_111 : decode cX9_init 111 = .ok (.aload_n 2, 1) := by decide +kernel
theorem dkX9_112 : decode cX9_init 112 = .ok (.aload_n 3, 1) := by decide +kernel
theorem dkX9_113 : decode cX9_init 113 = .ok (.invokespecial 68, 3) := by decide +kernel
theorem dkX9_116 : decode cX9_init 116 = .ok (.putfield 69, 3) := by decide +kernel
theorem dkX9_119 : decode cX9_init 119 = .ok (.aload_n 0, 1) := by decide +kernel
theorem dkX9_120 : decode cX9_init 120 = .ok (.new 73, 3) := by decide +kernel
theorem dkX9_123 : decode cX9_init 123 = .ok (.dup, 1) := by decide +kernel
theorem dkX9_124 : decode cX9_init 124 = .ok (.invokespecial 75, 3) := by decide +kernel
theorem dkX9_127 : decode cX9_init 127 = .ok (.putfield 76, 3) := by decide +kernel
theorem dkX9_130 : decode cX9_init 130 = .ok (.aload_n 0, 1) := by decide +kernel
theorem dkX9_131 : decode cX9_init 131 = .ok (.new 80, 3) := by decide +kernel
theorem dkX9_134 : decode cX9_init 134 = .ok (.dup, 1) := by decide +kernel
theorem dkX9_135 : decode cX9_init 135 = .ok (.aload_n 1, 1) := by decide +kernel
theorem dkX9_136 : decode cX9_init 136 = .ok (.aload_n 2, 1) := by decide +kernel
theorem dkX9_137 : decode cX9_init 137 = .ok (.aload_n 3, 1) := by decide +kernel
theorem dkX9_138 : decode cX9_init 138 = .ok (.invokespecial 82, 3) := by decide +kernel
theorem dkX9_141 : decode cX9_init 141 = .ok (.putfield 83, 3) := by decide +kernel
theorem dkX9_144 : decode cX9_init 144 = .ok (.return_, 1) := by decide +kernel
theorem dkX10_0 : decode cX10_init 0 = .ok (.aload_n 0, 1) := by decide +kernel
theorem dkX10_1 : decode cX10_init 1 = .ok (.invokespecial 1, 3) := by decide +kernel
theorem dkX10_4 : decode cX10_init 4 = .ok (.aload_n 0, 1) := by decide +kernel
theorem dkX10_5 : decode cX10_init 5 = .ok (.bipush 12, 2) := by decide +kernel
theorem dkX10_7 : decode cX10_init 7 = .ok (.newarray .int, 2) := by decide +kernel
theorem dkX10_9 : decode cX10_init 9 = .ok (.putfield 7, 3) := by decide +kernel
theorem dkX10_12 : decode cX10_init 12 = .ok (.aload_n 0, 1) := by decide +kernel
theorem dkX10_13 : decode cX10_init 13 = .ok (.bipush 40, 2) := by decide +kernel
theorem dkX10_15 : decode cX10_init 15 = .ok (.newarray .int, 2) := by decide +kernel
theorem dkX10_17 : decode cX10_init 17 = .ok (.putfield 13, 3) := by decide +kernel
theorem dkX10_20 : decode cX10_init 20 = .ok (.aload_n 0, 1) := by decide +kernel
theorem dkX10_21 : decode cX10_init 21 = .ok (.bipush 8, 2) := by decide +kernel
theorem dkX10_23 : decode cX10_init 23 = .ok (.newarray .int, 2) := by decide +kernel
theorem dkX10_25 : decode cX10_init 25 = .ok (.putfield 16, 3) := by decide +kernel
theorem dkX10_28 : decode cX10_init 28 = .ok (.aload_n 0, 1) := by decide +kernel
theorem dkX10_29 : decode cX10_init 29 = .ok (.bipush 11, 2) := by decide +kernel
theorem dkX10_31 : decode cX10_init 31 = .ok (.newarray .int, 2) := by decide +kernel
theorem dkX10_33 : decode cX10_init 33 = .ok (.putfield 19, 3) := by decide +kernel
theorem dkX10_36 : decode cX10_init 36 = .ok (.aload_n 0, 1) := by decide +kernel
theorem dkX10_37 : decode cX10_init 37 = .ok (.bipush 110, 2) := by decide +kernel
theorem dkX10_39 : decode cX10_init 39 = .ok (.newarray .int, 2) := by decide +kernel
theorem dkX10_41 : decode cX10_init 41 = .ok (.putfield 22, 3) := by decide +kernel
theorem dkX10_44 : decode cX10_init 44 = .ok (.aload_n 0, 1) := by decide +kernel
theorem dkX10_45 : decode cX10_init 45 = .ok (.bipush 22, 2) := by decide +kernel
theorem dkX10_47 : decode cX10_init 47 = .ok (.newarray .int, 2) := by decide +kernel
theorem dkX10_49 : decode cX10_init 49 = .ok (.putfield 25, 3) := by decide +kernel
theorem dkX10_52 : decode cX10_init 52 = .ok (.aload_n 0, 1) := by decide +kernel
theorem dkX10_53 : decode cX10_init 53 = .ok (.iconst 2, 1) := by decide +kernel
theorem dkX10_54 : decode cX10_init 54 = .ok (.newarray .boolean, 2) := by decide +kernel
theorem dkX10_56 : decode cX10_init 56 = .ok (.putfield 28, 3) := by decide +kernel
theorem dkX10_59 : decode cX10_init 59 = .ok (.aload_n 0, 1) := by decide +kernel
theorem dkX10_60 : decode cX10_init 60 = .ok (.bipush 12, 2) := by decide +kernel
theorem dkX10_62 : decode cX10_init 62 = .ok (.newarray .int, 2) := by decide +kernel
theorem dkX10_64 : decode cX10_init 64 = .ok (.putfield 32, 3) := by decide +kernel
theorem dkX10_67 : decode cX10_init 67 = .ok (.aload_n 0, 1) := by decide +kernel
theorem dkX10_68 : decode cX10_init 68 = .ok (.sipush 200, 3) := by decide +kernel
theorem dkX10_71 : decode cX10_init 71 = .ok (.newarray .int, 2) := by decide +kernel
theorem dkX10_73 : decode cX10_init 73 = .ok (.putfield 35, 3) := by decide +kernel
theorem dkX10_76 : decode cX10_init 76 = .ok (.aload_n 0, 1) := by decide +kernel
theorem dkX10_77 : decode cX10_init 77 = .ok (.bipush 12, 2) := by decide +kernel
theorem dkX10_79 : decode cX10_init 79 = .ok (.newarray .int, 2) := by decide +kernel
theorem dkX10_81 : decode cX10_init 81 = .ok (.putfield 38, 3) := by decide +kernel
theorem dkX10_84 : decode cX10_init 84 = .ok (.aload_n 0, 1) := by decide +kernel
theorem dkX10_85 : decode cX10_init 85 = .ok (.bipush 40, 2) := by decide +kernel
theorem dkX10_87 : decode cX10_init 87 = .ok (.newarray .int, 2) := by decide +kernel
theorem dkX10_89 : decode cX10_init 89 = .ok (.putfield 41, 3) := by decide +kernel
theorem dkX10_92 : decode cX10_init 92 = .ok (.aload_n 0, 1) := by decide +kernel
theorem dkX10_93 : decode cX10_init 93 = .ok (.bipush 8, 2) := by decide +kernel
theorem dkX10_95 : decode cX10_init 95 = .ok (.newarray .int, 2) := by decide +kernel
theorem dkX10_97 : decode cX10_init 97 = .ok (.putfield 44, 3) := by decide +kernel
theorem dkX10_100 : decode cX10_init 100 = .ok (.aload_n 0, 1) := by decide +kernel
theorem dkX10_101 : decode cX10_init 101 = .ok (.iconst 4, 1) := by decide +kernel
theorem dkX10_102 : decode cX10_init 102 = .ok (.newarray .int, 2) := by decide +kernel
theorem dkX10_104 : decode cX10_init 104 = .ok (.putfield 47, 3) := by decide +kernel
theorem dkX10_107 : decode cX10_init 107 = .ok (.aload_n 0, 1) := by decide +kernel
theorem dkX10_108 : decode cX10_init 108 = .ok (.bipush 6, 2) := by decide +kernel
theorem dkX10_110 : decode cX10_init 110 = .ok (.newarray .int, 2) := by decide +kernel
theorem dkX10_112 : decode cX10_init 112 = .ok (.putfield 50, 3) := by decide +kernel
theorem dkX10_115 : decode cX10_init 115 = .ok (.aload_n 0, 1) := by decide +kernel
theorem dkX10_116 : decode cX10_init 116 = .ok (.bipush 6, 2) := by decide +kernel
theorem dkX10_118 : decode cX10_init 118 = .ok (.newarray .int, 2) := by decide +kernel
theorem dkX10_120 : decode cX10_init 120 = .ok (.putfield 53, 3) := by decide +kernel
theorem dkX10_123 : decode cX10_init 123 = .ok (.aload_n 0, 1) := by decide +kernel
theorem dkX10_124 : decode cX10_init 124 = .ok (.bipush 20, 2) := by decide +kernel
theorem dkX10_126 : decode cX10_init 126 = .ok (.newarray .int, 2) := by decide +kernel
theorem dkX10_128 : decode cX10_init 128 = .ok (.putfield 56, 3) := by decide +kernel
theorem dkX10_131 : decode cX10_init 131 = .ok (.aload_n 0, 1) := by decide +kernel
theorem dkX10_132 : decode cX10_init 132 = .ok (.iconst 5, 1) := by decide +kernel
theorem dkX10_133 : decode cX10_init 133 = .ok (.newarray .int, 2) := by decide +kernel
theorem dkX10_135 : decode cX10_init 135 = .ok (.putfield 59, 3) := by decide +kernel
theorem dkX10_138 : decode cX10_init 138 = .ok (.aload_n 0, 1) := by decide +kernel
theorem dkX10_139 : decode cX10_init 139 = .ok (.iconst 5, 1) := by decide +kernel
theorem dkX10_140 : decode cX10_init 140 = .ok (.newarray .int, 2) := by decide +kernel
theorem dkX10_142 : decode cX10_init 142 = .ok (.putfield 62, 3) := by decide +kernel
theorem dkX10_145 : decode cX10_init 145 = .ok (.aload_n 0, 1) := by decide +kernel
theorem dkX10_146 : decode cX10_init 146 = .ok (.bipush 6, 2) := by decide +kernel
theorem dkX10_148 : decode cX10_init 148 = .ok (.newarray .int, 2) := by decide +kernel
theorem dkX10_150 : decode cX10_init 150 = .ok (.putfield 65, 3) := by decide +kernel
theorem dkX10_153 : decode cX10_init 153 = .ok (.aload_n 0, 1) := by decide +kernel
theorem dkX10_154 : decode cX10_init 154 = .ok (.bipush 6, 2) := by decide +kernel
theorem dkX10_156 : decode cX10_init 156 = .ok (.newarray .int, 2) := by decide +kernel
theorem dkX10_158 : decode cX10_init 158 = .ok (.putfield 68, 3) := by decide +kernel
theorem dkX10_161 : decode cX10_init 161 = .ok (.aload_n 0, 1) := by decide +kernel
theorem dkX10_162 : decode cX10_init 162 = .ok (.iconst 5, 1) := by decide +kernel
theorem dkX10_163 : decode cX10_init 163 = .ok (.newarray .int, 2) := by decide +kernel
theorem dkX10_165 : decode cX10_init 165 = .ok (.putfield 71, 3) := by decide +kernel
theorem dkX10_168 : decode cX10_init 168 = .ok (.return_, 1) := by decide +kernel
theorem dkL_0 : decode code 0 = .ok (.new 7, 3) := by decide +kernel
theorem dkL_3 : decode code 3 = .ok (.dup, 1) := by decide +kernel
theorem dkL_4 : decode code 4 = .ok (.invokespecial 9, 3) := by decide +kernel
theorem dkL_7 : decode code 7 = .ok (.astore_n 1, 1) := by decide +kernel
theorem dkL_8 : decode code 8 = .ok (.new 10, 3) := by decide +kernel
theorem dkL_11 : decode code 11 = .ok (.dup, 1) := by decide +kernel
theorem dkL_12 : decode code 12 = .ok (.invokespecial 12, 3) := by decide +kernel
theorem dkL_15 : decode code 15 = .ok (.astore_n 2, 1) := by decide +kernel
theorem goodC {q n : Nat} {y : MethodName} {c : ByteArray} (h : lkQ q (.code y c n none) = true) : GoodIn LT (wsC y c n) := by
  intro w hw
  rcases List.mem_cons.mp hw with rfl | hw
  · exact ⟨List.mem_filter.mpr (lkQ_spec h), good_of_word (lkQ_spec h).2⟩
  · exact ⟨hw, good_of_word (List.mem_filter.mp hw).2⟩
theorem ka_same {D : va_G} {tys : List (ClassId × FieldType)} {s : State} {c1 c2 : ClassId} (hK : va_K D vwCl tys s) {i j : Nat} (h1 : tys[i]? = some (c1, .int)) (h2 : tys[j]? = some (c2, .int)) : c1 = c2 := by
  have a : s.vm.findClass ("[" ++ FieldType.int.toString) = some c1 := (hK.2 i _ h1).2
  have b : s.vm.findClass ("[" ++ FieldType.int.toString) = some c2 := (hK.2 j _ h2).2
  exact Option.some.inj (a.symm.trans b)
theorem ka_sameZ {D : va_G} {tys : List (ClassId × FieldType)} {s : State} {c1 c2 : ClassId} (hK : va_K D vwCl tys s) {i j : Nat} (h1 : tys[i]? = some (c1, .boolean)) (h2 : tys[j]? = some (c2, .boolean)) : c1 = c2 := by
  have a : s.vm.findClass ("[" ++ FieldType.boolean.toString) = some c1 := (hK.2 i _ h1).2
  have b : s.vm.findClass ("[" ++ FieldType.boolean.toString) = some c2 := (hK.2 j _ h2).2
  exact Option.some.inj (a.symm.trans b)
theorem dfX0 : ∀ j, j < 2 → defaultValue (tyX0 j) = vp_V [.null, .null] j
  | 0, _ => rfl
  | 1, _ => rfl
  | n + 2, h => absurd h (by omega)
theorem dfX1 : ∀ j, j < 3 → defaultValue (tyX1 j) = vp_V [.int 0, .null, .null] j
  | 0, _ => rfl
  | 1, _ => rfl
  | 2, _ => rfl
  | n + 3, h => absurd h (by omega)
theorem dfX2 : ∀ j, j < 11 → defaultValue (tyX2 j) = vp_V [.int 0, .int 0, .int 0, .null, .null, .null, .null, .null, .null, .null, .null] j
  | 0, _ => rfl
  | 1, _ => rfl
  | 2, _ => rfl
  | 3, _ => rfl
  | 4, _ => rfl
  | 5, _ => rfl
  | 6, _ => rfl
  | 7, _ => rfl
  | 8, _ => rfl
  | 9, _ => rfl
  | 10, _ => rfl
  | n + 11, h => absurd h (by omega)
theorem dfX3 : ∀ j, j < 4 → defaultValue (tyX3 j) = vp_V [.null, .null, .null, .long 0] j
  | 0, _ => rfl
  | 1, _ => rfl
  | 2, _ => rfl
  | 3, _ => rfl
  | n + 4, h => absurd h (by omega)
theorem dfX4 : ∀ j, j < 1 → defaultValue (tyX4 j) = vp_V [.null] j
  | 0, _ => rfl
  | n + 1, h => absurd h (by omega)
theorem dfX5 : ∀ j, j < 5 → defaultValue (tyX5 j) = vp_V [.null, .null, .null, .null, .null] j
  | 0, _ => rfl
  | 1, _ => rfl
  | 2, _ => rfl
  | 3, _ => rfl
  | 4, _ => rfl
  | n + 5, h => absurd h (by omega)
theorem dfX6 : ∀ j, j < 3 → defaultValue (tyX6 j) = vp_V [.int 0, .int 0, .null] j
  | 0, _ => rfl
  | 1, _ => rfl
  | 2, _ => rfl
  | n + 3, h => absurd h (by omega)
theorem dfX7 : ∀ j, j < 8 → defaultValue (tyX7 j) = vp_V [.null, .null, .null, .int 0, .int 0, .null, .null, .null] j
  | 0, _ => rfl
  | 1, _ => rfl
  | 2, _ => rfl
  | 3, _ => rfl
  | 4, _ => rfl
  | 5, _ => rfl
  | 6, _ => rfl
  | 7, _ => rfl
  | n + 8, h => absurd h (by omega)
theorem dfX8 : ∀ j, j < 5 → defaultValue (tyX8 j) = vp_V [.int 0, .null, .null, .int 0, .int 0] j
  | 0, _ => rfl
  | 1, _ => rfl
  | 2, _ => rfl
  | 3, _ => rfl
  | 4, _ => rfl
  | n + 5, h => absurd h (by omega)
theorem dfX9 : ∀ j, j < 12 → defaultValue (tyX9 j) = vp_V [.null, .null, .null, .null, .null, .null, .int 0, .null, .null, .null, .null, .null] j
  | 0, _ => rfl
  | 1, _ => rfl
  | 2, _ => rfl
  | 3, _ => rfl
  | 4, _ => rfl
  | 5, _ => rfl
  | 6, _ => rfl
  | 7, _ => rfl
  | 8, _ => rfl
  | 9, _ => rfl
  | 10, _ => rfl
  | 11, _ => rfl
  | n + 12, h => absurd h (by omega)
theorem dfX10 : ∀ j, j < 41 → defaultValue (tyX10 j) = vp_V [.int 0, .null, .int 0, .null, .int 0, .null, .null, .null, .int 0, .null, .null, .int 0, .null, .long 0, .null, .int 0, .int 0, .int 0, .int 0, .int 0, .int 0, .int 0, .int 0, .null, .int 0, .null, .int 0, .null, .null, .int 0, .null, .null, .int 0, .null, .null, .null, .int 0, .null, .null, .null, .int 0] j
  | 0, _ => rfl
  | 1, _ => rfl
  | 2, _ => rfl
  | 3, _ => rfl
  | 4, _ => rfl
  | 5, _ => rfl
  | 6, _ => rfl
  | 7, _ => rfl
  | 8, _ => rfl
  | 9, _ => rfl
  | 10, _ => rfl
  | 11, _ => rfl
  | 12, _ => rfl
  | 13, _ => rfl
  | 14, _ => rfl
  | 15, _ => rfl
  | 16, _ => rfl
  | 17, _ => rfl
  | 18, _ => rfl
  | 19, _ => rfl
  | 20, _ => rfl
  | 21, _ => rfl
  | 22, _ => rfl
  | 23, _ => rfl
  | 24, _ => rfl
  | 25, _ => rfl
  | 26, _ => rfl
  | 27, _ => rfl
  | 28, _ => rfl
  | 29, _ => rfl
  | 30, _ => rfl
  | 31, _ => rfl
  | 32, _ => rfl
  | 33, _ => rfl
  | 34, _ => rfl
  | 35, _ => rfl
  | 36, _ => rfl
  | 37, _ => rfl
  | 38, _ => rfl
  | 39, _ => rfl
  | 40, _ => rfl
  | n + 41, h => absurd h (by omega)
