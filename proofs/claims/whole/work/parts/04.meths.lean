set_option maxRecDepth 100000 in
theorem xw_X0_addLane : Cond.code yX0_addLane cX0_addLane 6 none ∈ GT := gt_in 913 rfl (by decide +kernel)
theorem ok_X0_addLane : MOK mX0_addLane 4 := ⟨xw_X0_addLane, iw_NineSaints_City, by decide +kernel, by decide +kernel, by decide⟩
theorem mv_X0_addLane : MV mX0_addLane 4 0 := ⟨ok_X0_addLane, gt_in 911 (by decide +kernel) (by decide +kernel), gt_in 912 (by decide +kernel) (by decide +kernel), _, rfl, rfl⟩
set_option maxRecDepth 100000 in
theorem xw_X0_copyFrom : Cond.code yX0_copyFrom cX0_copyFrom 2 none ∈ GT := gt_in 970 rfl (by decide +kernel)
theorem ok_X0_copyFrom : MOK mX0_copyFrom 1 := ⟨xw_X0_copyFrom, iw_NineSaints_City, by decide +kernel, by decide +kernel, by decide⟩
theorem mv_X0_copyFrom : MV mX0_copyFrom 1 0 := ⟨ok_X0_copyFrom, gt_in 968 (by decide +kernel) (by decide +kernel), gt_in 969 (by decide +kernel) (by decide +kernel), _, rfl, rfl⟩
set_option maxRecDepth 100000 in
theorem xw_X0_copyRow : Cond.code yX0_copyRow cX0_copyRow 3 none ∈ GT := gt_in 974 rfl (by decide +kernel)
theorem ok_X0_copyRow : MOK mX0_copyRow 2 := ⟨xw_X0_copyRow, iw_NineSaints_City, by decide +kernel, by decide +kernel, by decide⟩
theorem mv_X0_copyRow : MV mX0_copyRow 2 0 := ⟨ok_X0_copyRow, gt_in 973 (by decide +kernel) (by decide +kernel), gt_in 29 (by decide +kernel) (by decide +kernel), _, rfl, rfl⟩
set_option maxRecDepth 100000 in
theorem xw_X0_empty : Cond.code yX0_empty cX0_empty 1 none ∈ GT := gt_in 691 rfl (by decide +kernel)
theorem ok_X0_empty : MOK mX0_empty 0 := ⟨xw_X0_empty, iw_NineSaints_City, by decide +kernel, by decide +kernel, by decide⟩
theorem mv_X0_empty : MV mX0_empty 0 0 := ⟨ok_X0_empty, gt_in 689 (by decide +kernel) (by decide +kernel), gt_in 690 (by decide +kernel) (by decide +kernel), _, rfl, rfl⟩
set_option maxRecDepth 100000 in
theorem xw_X0_greaterLoud : Cond.code yX0_greaterLoud cX0_greaterLoud 3 (some .int) ∈ GT := gt_in 1147 rfl (by decide +kernel)
theorem ok_X0_greaterLoud : MOK mX0_greaterLoud 2 := ⟨xw_X0_greaterLoud, iw_NineSaints_City, by decide +kernel, by decide +kernel, by decide⟩
theorem mv_X0_greaterLoud : MV mX0_greaterLoud 2 0 := ⟨ok_X0_greaterLoud, gt_in 1145 (by decide +kernel) (by decide +kernel), gt_in 1146 (by decide +kernel) (by decide +kernel), _, rfl, rfl⟩
set_option maxRecDepth 100000 in
theorem xw_X0_hearThrough : Cond.code yX0_hearThrough cX0_hearThrough 6 none ∈ GT := gt_in 966 rfl (by decide +kernel)
theorem ok_X0_hearThrough : MOK mX0_hearThrough 1 := ⟨xw_X0_hearThrough, iw_NineSaints_City, by decide +kernel, by decide +kernel, by decide⟩
theorem mv_X0_hearThrough : MV mX0_hearThrough 1 0 := ⟨ok_X0_hearThrough, gt_in 965 (by decide +kernel) (by decide +kernel), gt_in 28 (by decide +kernel) (by decide +kernel), _, rfl, rfl⟩
set_option maxRecDepth 100000 in
theorem xw_X0_init : Cond.code yX0_init cX0_init 1 none ∈ GT := gt_in 205 rfl (by decide +kernel)
theorem ok_X0_init : MOK mX0_init 0 := ⟨xw_X0_init, iw_NineSaints_City, by decide +kernel, by decide +kernel, by decide⟩
theorem mi_X0_init : MI mX0_init 0 := ⟨ok_X0_init, gt_in 204 (by decide +kernel) (by decide +kernel), rfl, rfl⟩
set_option maxRecDepth 100000 in
theorem xw_X0_lastPetals : Cond.code yX0_lastPetals cX0_lastPetals 4 (some .int) ∈ GT := gt_in 1115 rfl (by decide +kernel)
theorem ok_X0_lastPetals : MOK mX0_lastPetals 2 := ⟨xw_X0_lastPetals, iw_NineSaints_City, by decide +kernel, by decide +kernel, by decide⟩
theorem mv_X0_lastPetals : MV mX0_lastPetals 2 0 := ⟨ok_X0_lastPetals, gt_in 1113 (by decide +kernel) (by decide +kernel), gt_in 1114 (by decide +kernel) (by decide +kernel), _, rfl, rfl⟩
set_option maxRecDepth 100000 in
theorem xw_X0_minutesOf : Cond.code yX0_minutesOf cX0_minutesOf 3 (some .int) ∈ GT := gt_in 727 rfl (by decide +kernel)
theorem ok_X0_minutesOf : MOK mX0_minutesOf 2 := ⟨xw_X0_minutesOf, iw_NineSaints_City, by decide +kernel, by decide +kernel, by decide⟩
theorem mv_X0_minutesOf : MV mX0_minutesOf 2 0 := ⟨ok_X0_minutesOf, gt_in 725 (by decide +kernel) (by decide +kernel), gt_in 726 (by decide +kernel) (by decide +kernel), _, rfl, rfl⟩
set_option maxRecDepth 100000 in
theorem xw_X0_petalsOf : Cond.code yX0_petalsOf cX0_petalsOf 8 (some .int) ∈ GT := gt_in 1111 rfl (by decide +kernel)
theorem ok_X0_petalsOf : MOK mX0_petalsOf 4 := ⟨xw_X0_petalsOf, iw_NineSaints_City, by decide +kernel, by decide +kernel, by decide⟩
theorem mv_X0_petalsOf : MV mX0_petalsOf 4 0 := ⟨ok_X0_petalsOf, gt_in 1109 (by decide +kernel) (by decide +kernel), gt_in 1110 (by decide +kernel) (by decide +kernel), _, rfl, rfl⟩
set_option maxRecDepth 100000 in
theorem xw_X0_settle : Cond.code yX0_settle cX0_settle 4 none ∈ GT := gt_in 962 rfl (by decide +kernel)
theorem ok_X0_settle : MOK mX0_settle 0 := ⟨xw_X0_settle, iw_NineSaints_City, by decide +kernel, by decide +kernel, by decide⟩
theorem mv_X0_settle : MV mX0_settle 0 0 := ⟨ok_X0_settle, gt_in 960 (by decide +kernel) (by decide +kernel), gt_in 961 (by decide +kernel) (by decide +kernel), _, rfl, rfl⟩
set_option maxRecDepth 100000 in
theorem xw_X0_wordsOf : Cond.code yX0_wordsOf cX0_wordsOf 4 (some .int) ∈ GT := gt_in 1266 rfl (by decide +kernel)
theorem ok_X0_wordsOf : MOK mX0_wordsOf 1 := ⟨xw_X0_wordsOf, iw_NineSaints_City, by decide +kernel, by decide +kernel, by decide⟩
theorem mv_X0_wordsOf : MV mX0_wordsOf 1 0 := ⟨ok_X0_wordsOf, gt_in 1264 (by decide +kernel) (by decide +kernel), gt_in 1265 (by decide +kernel) (by decide +kernel), _, rfl, rfl⟩
set_option maxRecDepth 100000 in
theorem xw_X1_firstUnexcused : Cond.code yX1_firstUnexcused cX1_firstUnexcused 11 (some .int) ∈ GT := gt_in 1170 rfl (by decide +kernel)
theorem ok_X1_firstUnexcused : MOK mX1_firstUnexcused 3 := ⟨xw_X1_firstUnexcused, iw_NineSaints_Custom, by decide +kernel, by decide +kernel, by decide⟩
theorem mv_X1_firstUnexcused : MV mX1_firstUnexcused 3 1 := ⟨ok_X1_firstUnexcused, gt_in 1168 (by decide +kernel) (by decide +kernel), gt_in 1169 (by decide +kernel) (by decide +kernel), _, rfl, rfl⟩
set_option maxRecDepth 100000 in
theorem xw_X1_forget : Cond.code yX1_forget cX1_forget 1 none ∈ GT := gt_in 982 rfl (by decide +kernel)
theorem ok_X1_forget : MOK mX1_forget 0 := ⟨xw_X1_forget, iw_NineSaints_Custom, by decide +kernel, by decide +kernel, by decide⟩
theorem mv_X1_forget : MV mX1_forget 0 1 := ⟨ok_X1_forget, gt_in 980 (by decide +kernel) (by decide +kernel), gt_in 981 (by decide +kernel) (by decide +kernel), _, rfl, rfl⟩
set_option maxRecDepth 100000 in
theorem xw_X1_holding : Cond.code yX1_holding cX1_holding 8 (some .int) ∈ GT := gt_in 1258 rfl (by decide +kernel)
theorem ok_X1_holding : MOK mX1_holding 4 := ⟨xw_X1_holding, iw_NineSaints_Custom, by decide +kernel, by decide +kernel, by decide⟩
theorem mv_X1_holding : MV mX1_holding 4 1 := ⟨ok_X1_holding, gt_in 1256 (by decide +kernel) (by decide +kernel), gt_in 1257 (by decide +kernel) (by decide +kernel), _, rfl, rfl⟩
set_option maxRecDepth 100000 in
theorem xw_X1_holds : Cond.code yX1_holds cX1_holds 9 (some .boolean) ∈ GT := gt_in 1182 rfl (by decide +kernel)
theorem ok_X1_holds : MOK mX1_holds 1 := ⟨xw_X1_holds, iw_NineSaints_Custom, by decide +kernel, by decide +kernel, by decide⟩
theorem mv_X1_holds : MV mX1_holds 1 1 := ⟨ok_X1_holds, gt_in 1181 (by decide +kernel) (by decide +kernel), gt_in 40 (by decide +kernel) (by decide +kernel), _, rfl, rfl⟩
set_option maxRecDepth 100000 in
theorem xw_X1_init : Cond.code yX1_init cX1_init 2 none ∈ GT := gt_in 497 rfl (by decide +kernel)
theorem ok_X1_init : MOK mX1_init 1 := ⟨xw_X1_init, iw_NineSaints_Custom, by decide +kernel, by decide +kernel, by decide⟩
theorem mi_X1_init : MI mX1_init 1 := ⟨ok_X1_init, gt_in 496 (by decide +kernel) (by decide +kernel), rfl, rfl⟩
set_option maxRecDepth 100000 in
theorem xw_X1_wordsOf : Cond.code yX1_wordsOf cX1_wordsOf 10 (some .int) ∈ GT := gt_in 1175 rfl (by decide +kernel)
theorem ok_X1_wordsOf : MOK mX1_wordsOf 4 := ⟨xw_X1_wordsOf, iw_NineSaints_Custom, by decide +kernel, by decide +kernel, by decide⟩
theorem mv_X1_wordsOf : MV mX1_wordsOf 4 1 := ⟨ok_X1_wordsOf, gt_in 1174 (by decide +kernel) (by decide +kernel), gt_in 39 (by decide +kernel) (by decide +kernel), _, rfl, rfl⟩
set_option maxRecDepth 100000 in
theorem xw_X2_count : Cond.code yX2_count cX2_count 6 none ∈ GT := gt_in 1468 rfl (by decide +kernel)
theorem ok_X2_count : MOK mX2_count 1 := ⟨xw_X2_count, iw_NineSaints_Dawn, by decide +kernel, by decide +kernel, by decide⟩
theorem mv_X2_count : MV mX2_count 1 2 := ⟨ok_X2_count, gt_in 1467 (by decide +kernel) (by decide +kernel), gt_in 60 (by decide +kernel) (by decide +kernel), _, rfl, rfl⟩
set_option maxRecDepth 100000 in
theorem xw_X2_heap : Cond.code yX2_heap cX2_heap 7 none ∈ GT := gt_in 1461 rfl (by decide +kernel)
theorem ok_X2_heap : MOK mX2_heap 4 := ⟨xw_X2_heap, iw_NineSaints_Dawn, by decide +kernel, by decide +kernel, by decide⟩
theorem mv_X2_heap : MV mX2_heap 4 2 := ⟨ok_X2_heap, gt_in 1460 (by decide +kernel) (by decide +kernel), gt_in 59 (by decide +kernel) (by decide +kernel), _, rfl, rfl⟩
set_option maxRecDepth 100000 in
theorem xw_X2_init : Cond.code yX2_init cX2_init 3 none ∈ GT := gt_in 651 rfl (by decide +kernel)
theorem ok_X2_init : MOK mX2_init 2 := ⟨xw_X2_init, iw_NineSaints_Dawn, by decide +kernel, by decide +kernel, by decide⟩
theorem mi_X2_init : MI mX2_init 2 := ⟨ok_X2_init, gt_in 650 (by decide +kernel) (by decide +kernel), rfl, rfl⟩
set_option maxRecDepth 100000 in
theorem xw_X2_look : Cond.code yX2_look cX2_look 8 none ∈ GT := gt_in 1456 rfl (by decide +kernel)
theorem ok_X2_look : MOK mX2_look 2 := ⟨xw_X2_look, iw_NineSaints_Dawn, by decide +kernel, by decide +kernel, by decide⟩
theorem mv_X2_look : MV mX2_look 2 2 := ⟨ok_X2_look, gt_in 1454 (by decide +kernel) (by decide +kernel), gt_in 1455 (by decide +kernel) (by decide +kernel), _, rfl, rfl⟩
set_option maxRecDepth 100000 in
theorem xw_X3_add : Cond.code yX3_add cX3_add 5 none ∈ GT := gt_in 1159 rfl (by decide +kernel)
theorem ok_X3_add : MOK mX3_add 4 := ⟨xw_X3_add, iw_NineSaints_Meetings, by decide +kernel, by decide +kernel, by decide⟩
theorem mv_X3_add : MV mX3_add 4 3 := ⟨ok_X3_add, gt_in 1158 (by decide +kernel) (by decide +kernel), gt_in 37 (by decide +kernel) (by decide +kernel), _, rfl, rfl⟩
set_option maxRecDepth 100000 in
theorem xw_X3_drums : Cond.code yX3_drums cX3_drums 14 none ∈ GT := gt_in 1154 rfl (by decide +kernel)
theorem ok_X3_drums : MOK mX3_drums 5 := ⟨xw_X3_drums, iw_NineSaints_Meetings, by decide +kernel, by decide +kernel, by decide⟩
theorem mv_X3_drums : MV mX3_drums 5 3 := ⟨ok_X3_drums, gt_in 1153 (by decide +kernel) (by decide +kernel), gt_in 36 (by decide +kernel) (by decide +kernel), _, rfl, rfl⟩
set_option maxRecDepth 100000 in
theorem xw_X3_init : Cond.code yX3_init cX3_init 2 none ∈ GT := gt_in 450 rfl (by decide +kernel)
theorem ok_X3_init : MOK mX3_init 1 := ⟨xw_X3_init, iw_NineSaints_Meetings, by decide +kernel, by decide +kernel, by decide⟩
theorem mi_X3_init : MI mX3_init 1 := ⟨ok_X3_init, gt_in 449 (by decide +kernel) (by decide +kernel), rfl, rfl⟩
set_option maxRecDepth 100000 in
theorem xw_X3_scan : Cond.code yX3_scan cX3_scan 7 none ∈ GT := gt_in 1143 rfl (by decide +kernel)
theorem ok_X3_scan : MOK mX3_scan 6 := ⟨xw_X3_scan, iw_NineSaints_Meetings, by decide +kernel, by decide +kernel, by decide⟩
theorem mv_X3_scan : MV mX3_scan 6 3 := ⟨ok_X3_scan, gt_in 1141 (by decide +kernel) (by decide +kernel), gt_in 1142 (by decide +kernel) (by decide +kernel), _, rfl, rfl⟩
set_option maxRecDepth 100000 in
theorem xw_X3_scanAll : Cond.code yX3_scanAll cX3_scanAll 4 none ∈ GT := gt_in 1139 rfl (by decide +kernel)
theorem ok_X3_scanAll : MOK mX3_scanAll 3 := ⟨xw_X3_scanAll, iw_NineSaints_Meetings, by decide +kernel, by decide +kernel, by decide⟩
theorem mv_X3_scanAll : MV mX3_scanAll 3 3 := ⟨ok_X3_scanAll, gt_in 1137 (by decide +kernel) (by decide +kernel), gt_in 1138 (by decide +kernel) (by decide +kernel), _, rfl, rfl⟩
set_option maxRecDepth 100000 in
theorem xw_X3_trodden : Cond.code yX3_trodden cX3_trodden 11 none ∈ GT := gt_in 1163 rfl (by decide +kernel)
theorem ok_X3_trodden : MOK mX3_trodden 5 := ⟨xw_X3_trodden, iw_NineSaints_Meetings, by decide +kernel, by decide +kernel, by decide⟩
theorem mv_X3_trodden : MV mX3_trodden 5 3 := ⟨ok_X3_trodden, gt_in 1162 (by decide +kernel) (by decide +kernel), gt_in 38 (by decide +kernel) (by decide +kernel), _, rfl, rfl⟩
set_option maxRecDepth 100000 in
theorem xw_X4_excuses : Cond.code yX4_excuses cX4_excuses 5 (some .boolean) ∈ GT := gt_in 1262 rfl (by decide +kernel)
theorem ok_X4_excuses : MOK mX4_excuses 2 := ⟨xw_X4_excuses, iw_NineSaints_Night, by decide +kernel, by decide +kernel, by decide⟩
theorem mv_X4_excuses : MV mX4_excuses 2 4 := ⟨ok_X4_excuses, gt_in 1261 (by decide +kernel) (by decide +kernel), gt_in 44 (by decide +kernel) (by decide +kernel), _, rfl, rfl⟩
set_option maxRecDepth 100000 in
theorem xw_X4_firstClash : Cond.code yX4_firstClash cX4_firstClash 8 (some .int) ∈ GT := gt_in 1131 rfl (by decide +kernel)
theorem ok_X4_firstClash : MOK mX4_firstClash 1 := ⟨xw_X4_firstClash, iw_NineSaints_Night, by decide +kernel, by decide +kernel, by decide⟩
theorem mv_X4_firstClash : MV mX4_firstClash 1 4 := ⟨ok_X4_firstClash, gt_in 1129 (by decide +kernel) (by decide +kernel), gt_in 1130 (by decide +kernel) (by decide +kernel), _, rfl, rfl⟩
set_option maxRecDepth 100000 in
theorem xw_X4_firstIn : Cond.code yX4_firstIn cX4_firstIn 5 (some .int) ∈ GT := gt_in 1123 rfl (by decide +kernel)
theorem ok_X4_firstIn : MOK mX4_firstIn 2 := ⟨xw_X4_firstIn, iw_NineSaints_Night, by decide +kernel, by decide +kernel, by decide⟩
theorem mv_X4_firstIn : MV mX4_firstIn 2 4 := ⟨ok_X4_firstIn, gt_in 1121 (by decide +kernel) (by decide +kernel), gt_in 1122 (by decide +kernel) (by decide +kernel), _, rfl, rfl⟩
set_option maxRecDepth 100000 in
theorem xw_X4_firstMeeting : Cond.code yX4_firstMeeting cX4_firstMeeting 5 (some .int) ∈ GT := gt_in 1218 rfl (by decide +kernel)
theorem ok_X4_firstMeeting : MOK mX4_firstMeeting 2 := ⟨xw_X4_firstMeeting, iw_NineSaints_Night, by decide +kernel, by decide +kernel, by decide⟩
theorem mv_X4_firstMeeting : MV mX4_firstMeeting 2 4 := ⟨ok_X4_firstMeeting, gt_in 1216 (by decide +kernel) (by decide +kernel), gt_in 1217 (by decide +kernel) (by decide +kernel), _, rfl, rfl⟩
set_option maxRecDepth 100000 in
theorem xw_X4_foul : Cond.code yX4_foul cX4_foul 5 (some .int) ∈ GT := gt_in 1283 rfl (by decide +kernel)
theorem ok_X4_foul : MOK mX4_foul 0 := ⟨xw_X4_foul, iw_NineSaints_Night, by decide +kernel, by decide +kernel, by decide⟩
theorem mv_X4_foul : MV mX4_foul 0 4 := ⟨ok_X4_foul, gt_in 1281 (by decide +kernel) (by decide +kernel), gt_in 1282 (by decide +kernel) (by decide +kernel), _, rfl, rfl⟩
set_option maxRecDepth 100000 in
theorem xw_X4_heldSets : Cond.code yX4_heldSets cX4_heldSets 7 (some .long) ∈ GT := gt_in 1254 rfl (by decide +kernel)
theorem ok_X4_heldSets : MOK mX4_heldSets 2 := ⟨xw_X4_heldSets, iw_NineSaints_Night, by decide +kernel, by decide +kernel, by decide⟩
theorem mv_X4_heldSets : MV mX4_heldSets 2 4 := ⟨ok_X4_heldSets, gt_in 1253 (by decide +kernel) (by decide +kernel), gt_in 43 (by decide +kernel) (by decide +kernel), _, rfl, rfl⟩
set_option maxRecDepth 100000 in
theorem xw_X4_init : Cond.code yX4_init cX4_init 5 none ∈ GT := gt_in 526 rfl (by decide +kernel)
theorem ok_X4_init : MOK mX4_init 4 := ⟨xw_X4_init, iw_NineSaints_Night, by decide +kernel, by decide +kernel, by decide⟩
theorem mi_X4_init : MI mX4_init 4 := ⟨ok_X4_init, gt_in 525 (by decide +kernel) (by decide +kernel), rfl, rfl⟩
set_option maxRecDepth 100000 in
theorem xw_X4_joy : Cond.code yX4_joy cX4_joy 5 (some .int) ∈ GT := gt_in 1226 rfl (by decide +kernel)
theorem ok_X4_joy : MOK mX4_joy 0 := ⟨xw_X4_joy, iw_NineSaints_Night, by decide +kernel, by decide +kernel, by decide⟩
theorem mv_X4_joy : MV mX4_joy 0 4 := ⟨ok_X4_joy, gt_in 1224 (by decide +kernel) (by decide +kernel), gt_in 1225 (by decide +kernel) (by decide +kernel), _, rfl, rfl⟩
set_option maxRecDepth 100000 in
theorem xw_X4_pleases : Cond.code yX4_pleases cX4_pleases 6 (some .boolean) ∈ GT := gt_in 1230 rfl (by decide +kernel)
theorem ok_X4_pleases : MOK mX4_pleases 2 := ⟨xw_X4_pleases, iw_NineSaints_Night, by decide +kernel, by decide +kernel, by decide⟩
theorem mv_X4_pleases : MV mX4_pleases 2 4 := ⟨ok_X4_pleases, gt_in 1229 (by decide +kernel) (by decide +kernel), gt_in 42 (by decide +kernel) (by decide +kernel), _, rfl, rfl⟩
set_option maxRecDepth 100000 in
theorem xw_X4_softest : Cond.code yX4_softest cX4_softest 5 (some .int) ∈ GT := gt_in 1250 rfl (by decide +kernel)
theorem ok_X4_softest : MOK mX4_softest 0 := ⟨xw_X4_softest, iw_NineSaints_Night, by decide +kernel, by decide +kernel, by decide⟩
theorem mv_X4_softest : MV mX4_softest 0 4 := ⟨ok_X4_softest, gt_in 1248 (by decide +kernel) (by decide +kernel), gt_in 1249 (by decide +kernel) (by decide +kernel), _, rfl, rfl⟩
set_option maxRecDepth 100000 in
theorem xw_X4_tally : Cond.code yX4_tally cX4_tally 5 (some .int) ∈ GT := gt_in 1204 rfl (by decide +kernel)
theorem ok_X4_tally : MOK mX4_tally 1 := ⟨xw_X4_tally, iw_NineSaints_Night, by decide +kernel, by decide +kernel, by decide⟩
theorem mv_X4_tally : MV mX4_tally 1 4 := ⟨ok_X4_tally, gt_in 1202 (by decide +kernel) (by decide +kernel), gt_in 1203 (by decide +kernel) (by decide +kernel), _, rfl, rfl⟩
set_option maxRecDepth 100000 in
theorem xw_X4_tallyOf : Cond.code yX4_tallyOf cX4_tallyOf 7 (some .int) ∈ GT := gt_in 1208 rfl (by decide +kernel)
theorem ok_X4_tallyOf : MOK mX4_tallyOf 3 := ⟨xw_X4_tallyOf, iw_NineSaints_Night, by decide +kernel, by decide +kernel, by decide⟩
theorem mv_X4_tallyOf : MV mX4_tallyOf 3 4 := ⟨ok_X4_tallyOf, gt_in 1207 (by decide +kernel) (by decide +kernel), gt_in 41 (by decide +kernel) (by decide +kernel), _, rfl, rfl⟩
set_option maxRecDepth 100000 in
theorem xw_X4_unexcusedOf : Cond.code yX4_unexcusedOf cX4_unexcusedOf 7 (some .int) ∈ GT := gt_in 1135 rfl (by decide +kernel)
theorem ok_X4_unexcusedOf : MOK mX4_unexcusedOf 2 := ⟨xw_X4_unexcusedOf, iw_NineSaints_Night, by decide +kernel, by decide +kernel, by decide⟩
theorem mv_X4_unexcusedOf : MV mX4_unexcusedOf 2 4 := ⟨ok_X4_unexcusedOf, gt_in 1134 (by decide +kernel) (by decide +kernel), gt_in 35 (by decide +kernel) (by decide +kernel), _, rfl, rfl⟩
set_option maxRecDepth 100000 in
theorem xw_X5_endOf : Cond.code yX5_endOf cX5_endOf 3 (some .int) ∈ GT := gt_in 1373 rfl (by decide +kernel)
theorem ok_X5_endOf : MOK mX5_endOf 2 := ⟨xw_X5_endOf, iw_NineSaints_Options, by decide +kernel, by decide +kernel, by decide⟩
theorem mv_X5_endOf : MV mX5_endOf 2 5 := ⟨ok_X5_endOf, gt_in 1371 (by decide +kernel) (by decide +kernel), gt_in 1372 (by decide +kernel) (by decide +kernel), _, rfl, rfl⟩
set_option maxRecDepth 100000 in
theorem xw_X5_explore : Cond.code yX5_explore cX5_explore 8 none ∈ GT := gt_in 1299 rfl (by decide +kernel)
theorem ok_X5_explore : MOK mX5_explore 3 := ⟨xw_X5_explore, iw_NineSaints_Options, by decide +kernel, by decide +kernel, by decide⟩
theorem mv_X5_explore : MV mX5_explore 3 5 := ⟨ok_X5_explore, gt_in 1298 (by decide +kernel) (by decide +kernel), gt_in 45 (by decide +kernel) (by decide +kernel), _, rfl, rfl⟩
set_option maxRecDepth 100000 in
theorem xw_X5_fitting : Cond.code yX5_fitting cX5_fitting 16 (some .long) ∈ GT := gt_in 1382 rfl (by decide +kernel)
theorem ok_X5_fitting : MOK mX5_fitting 4 := ⟨xw_X5_fitting, iw_NineSaints_Options, by decide +kernel, by decide +kernel, by decide⟩
theorem mv_X5_fitting : MV mX5_fitting 4 5 := ⟨ok_X5_fitting, gt_in 1380 (by decide +kernel) (by decide +kernel), gt_in 1381 (by decide +kernel) (by decide +kernel), _, rfl, rfl⟩
set_option maxRecDepth 100000 in
theorem xw_X5_forgetWays : Cond.code yX5_forgetWays cX5_forgetWays 3 none ∈ GT := gt_in 1326 rfl (by decide +kernel)
theorem ok_X5_forgetWays : MOK mX5_forgetWays 0 := ⟨xw_X5_forgetWays, iw_NineSaints_Options, by decide +kernel, by decide +kernel, by decide⟩
theorem mv_X5_forgetWays : MV mX5_forgetWays 0 5 := ⟨ok_X5_forgetWays, gt_in 1325 (by decide +kernel) (by decide +kernel), gt_in 48 (by decide +kernel) (by decide +kernel), _, rfl, rfl⟩
set_option maxRecDepth 100000 in
theorem xw_X5_init : Cond.code yX5_init cX5_init 6 none ∈ GT := gt_in 551 rfl (by decide +kernel)
theorem ok_X5_init : MOK mX5_init 4 := ⟨xw_X5_init, iw_NineSaints_Options, by decide +kernel, by decide +kernel, by decide⟩
theorem mi_X5_init : MI mX5_init 4 := ⟨ok_X5_init, gt_in 550 (by decide +kernel) (by decide +kernel), rfl, rfl⟩
set_option maxRecDepth 100000 in
theorem xw_X5_judged : Cond.code yX5_judged cX5_judged 13 (some .boolean) ∈ GT := gt_in 1389 rfl (by decide +kernel)
theorem ok_X5_judged : MOK mX5_judged 4 := ⟨xw_X5_judged, iw_NineSaints_Options, by decide +kernel, by decide +kernel, by decide⟩
theorem mv_X5_judged : MV mX5_judged 4 5 := ⟨ok_X5_judged, gt_in 1388 (by decide +kernel) (by decide +kernel), gt_in 55 (by decide +kernel) (by decide +kernel), _, rfl, rfl⟩
set_option maxRecDepth 100000 in
theorem xw_X5_lateOf : Cond.code yX5_lateOf cX5_lateOf 2 (some .int) ∈ GT := gt_in 1319 rfl (by decide +kernel)
theorem ok_X5_lateOf : MOK mX5_lateOf 1 := ⟨xw_X5_lateOf, iw_NineSaints_Options, by decide +kernel, by decide +kernel, by decide⟩
theorem mv_X5_lateOf : MV mX5_lateOf 1 5 := ⟨ok_X5_lateOf, gt_in 1317 (by decide +kernel) (by decide +kernel), gt_in 1318 (by decide +kernel) (by decide +kernel), _, rfl, rfl⟩
set_option maxRecDepth 100000 in
theorem xw_X5_optionBits : Cond.code yX5_optionBits cX5_optionBits 2 (some .long) ∈ GT := gt_in 1352 rfl (by decide +kernel)
theorem ok_X5_optionBits : MOK mX5_optionBits 1 := ⟨xw_X5_optionBits, iw_NineSaints_Options, by decide +kernel, by decide +kernel, by decide⟩
theorem mv_X5_optionBits : MV mX5_optionBits 1 5 := ⟨ok_X5_optionBits, gt_in 1350 (by decide +kernel) (by decide +kernel), gt_in 1351 (by decide +kernel) (by decide +kernel), _, rfl, rfl⟩
set_option maxRecDepth 100000 in
theorem xw_X5_prepare : Cond.code yX5_prepare cX5_prepare 2 none ∈ GT := gt_in 1295 rfl (by decide +kernel)
theorem ok_X5_prepare : MOK mX5_prepare 0 := ⟨xw_X5_prepare, iw_NineSaints_Options, by decide +kernel, by decide +kernel, by decide⟩
theorem mv_X5_prepare : MV mX5_prepare 0 5 := ⟨ok_X5_prepare, gt_in 1293 (by decide +kernel) (by decide +kernel), gt_in 1294 (by decide +kernel) (by decide +kernel), _, rfl, rfl⟩
set_option maxRecDepth 100000 in
theorem xw_X5_rank : Cond.code yX5_rank cX5_rank 6 none ∈ GT := gt_in 1311 rfl (by decide +kernel)
theorem ok_X5_rank : MOK mX5_rank 1 := ⟨xw_X5_rank, iw_NineSaints_Options, by decide +kernel, by decide +kernel, by decide⟩
theorem mv_X5_rank : MV mX5_rank 1 5 := ⟨ok_X5_rank, gt_in 1310 (by decide +kernel) (by decide +kernel), gt_in 47 (by decide +kernel) (by decide +kernel), _, rfl, rfl⟩
set_option maxRecDepth 100000 in
theorem xw_X5_record : Cond.code yX5_record cX5_record 6 none ∈ GT := gt_in 1303 rfl (by decide +kernel)
theorem ok_X5_record : MOK mX5_record 2 := ⟨xw_X5_record, iw_NineSaints_Options, by decide +kernel, by decide +kernel, by decide⟩
theorem mv_X5_record : MV mX5_record 2 5 := ⟨ok_X5_record, gt_in 1302 (by decide +kernel) (by decide +kernel), gt_in 46 (by decide +kernel) (by decide +kernel), _, rfl, rfl⟩
set_option maxRecDepth 100000 in
theorem xw_X5_routesOf : Cond.code yX5_routesOf cX5_routesOf 2 (some .int) ∈ GT := gt_in 1291 rfl (by decide +kernel)
theorem ok_X5_routesOf : MOK mX5_routesOf 1 := ⟨xw_X5_routesOf, iw_NineSaints_Options, by decide +kernel, by decide +kernel, by decide⟩
theorem mv_X5_routesOf : MV mX5_routesOf 1 5 := ⟨ok_X5_routesOf, gt_in 1289 (by decide +kernel) (by decide +kernel), gt_in 1290 (by decide +kernel) (by decide +kernel), _, rfl, rfl⟩
set_option maxRecDepth 100000 in
theorem xw_X5_trackOf : Cond.code yX5_trackOf cX5_trackOf 3 (some (.object "NineSaints$Track")) ∈ GT := gt_in 1315 rfl (by decide +kernel)
theorem ok_X5_trackOf : MOK mX5_trackOf 2 := ⟨xw_X5_trackOf, iw_NineSaints_Options, by decide +kernel, by decide +kernel, by decide⟩
theorem mv_X5_trackOf : MV mX5_trackOf 2 5 := ⟨ok_X5_trackOf, gt_in 1313 (by decide +kernel) (by decide +kernel), gt_in 1314 (by decide +kernel) (by decide +kernel), _, rfl, rfl⟩
set_option maxRecDepth 100000 in
theorem xw_X6_adopt : Cond.code yX6_adopt cX6_adopt 3 none ∈ GT := gt_in 1410 rfl (by decide +kernel)
theorem ok_X6_adopt : MOK mX6_adopt 2 := ⟨xw_X6_adopt, iw_NineSaints_Planner, by decide +kernel, by decide +kernel, by decide⟩
theorem mv_X6_adopt : MV mX6_adopt 2 6 := ⟨ok_X6_adopt, gt_in 1409 (by decide +kernel) (by decide +kernel), gt_in 56 (by decide +kernel) (by decide +kernel), _, rfl, rfl⟩
set_option maxRecDepth 100000 in
theorem xw_X6_carryOut : Cond.code yX6_carryOut cX6_carryOut 4 (some .int) ∈ GT := gt_in 1406 rfl (by decide +kernel)
theorem ok_X6_carryOut : MOK mX6_carryOut 0 := ⟨xw_X6_carryOut, iw_NineSaints_Planner, by decide +kernel, by decide +kernel, by decide⟩
theorem mv_X6_carryOut : MV mX6_carryOut 0 6 := ⟨ok_X6_carryOut, gt_in 1404 (by decide +kernel) (by decide +kernel), gt_in 1405 (by decide +kernel) (by decide +kernel), _, rfl, rfl⟩
set_option maxRecDepth 100000 in
theorem xw_X6_cheapEnough : Cond.code yX6_cheapEnough cX6_cheapEnough 10 (some .long) ∈ GT := gt_in 1378 rfl (by decide +kernel)
theorem ok_X6_cheapEnough : MOK mX6_cheapEnough 3 := ⟨xw_X6_cheapEnough, iw_NineSaints_Planner, by decide +kernel, by decide +kernel, by decide⟩
theorem mv_X6_cheapEnough : MV mX6_cheapEnough 3 6 := ⟨ok_X6_cheapEnough, gt_in 1377 (by decide +kernel) (by decide +kernel), gt_in 54 (by decide +kernel) (by decide +kernel), _, rfl, rfl⟩
set_option maxRecDepth 100000 in
theorem xw_X6_cheapest : Cond.code yX6_cheapest cX6_cheapest 6 (some .int) ∈ GT := gt_in 1365 rfl (by decide +kernel)
theorem ok_X6_cheapest : MOK mX6_cheapest 2 := ⟨xw_X6_cheapest, iw_NineSaints_Planner, by decide +kernel, by decide +kernel, by decide⟩
theorem mv_X6_cheapest : MV mX6_cheapest 2 6 := ⟨ok_X6_cheapest, gt_in 1364 (by decide +kernel) (by decide +kernel), gt_in 52 (by decide +kernel) (by decide +kernel), _, rfl, rfl⟩
set_option maxRecDepth 100000 in
theorem xw_X6_dive : Cond.code yX6_dive cX6_dive 14 none ∈ GT := gt_in 1357 rfl (by decide +kernel)
theorem ok_X6_dive : MOK mX6_dive 2 := ⟨xw_X6_dive, iw_NineSaints_Planner, by decide +kernel, by decide +kernel, by decide⟩
theorem mv_X6_dive : MV mX6_dive 2 6 := ⟨ok_X6_dive, gt_in 1356 (by decide +kernel) (by decide +kernel), gt_in 50 (by decide +kernel) (by decide +kernel), _, rfl, rfl⟩
set_option maxRecDepth 100000 in
theorem xw_X6_drawOrder : Cond.code yX6_drawOrder cX6_drawOrder 4 (some .boolean) ∈ GT := gt_in 1440 rfl (by decide +kernel)
theorem ok_X6_drawOrder : MOK mX6_drawOrder 1 := ⟨xw_X6_drawOrder, iw_NineSaints_Planner, by decide +kernel, by decide +kernel, by decide⟩
theorem mv_X6_drawOrder : MV mX6_drawOrder 1 6 := ⟨ok_X6_drawOrder, gt_in 1438 (by decide +kernel) (by decide +kernel), gt_in 1439 (by decide +kernel) (by decide +kernel), _, rfl, rfl⟩
set_option maxRecDepth 100000 in
theorem xw_X6_fitsWays : Cond.code yX6_fitsWays cX6_fitsWays 4 (some .boolean) ∈ GT := gt_in 1432 rfl (by decide +kernel)
theorem ok_X6_fitsWays : MOK mX6_fitsWays 2 := ⟨xw_X6_fitsWays, iw_NineSaints_Planner, by decide +kernel, by decide +kernel, by decide⟩
theorem mv_X6_fitsWays : MV mX6_fitsWays 2 6 := ⟨ok_X6_fitsWays, gt_in 1431 (by decide +kernel) (by decide +kernel), gt_in 57 (by decide +kernel) (by decide +kernel), _, rfl, rfl⟩
set_option maxRecDepth 100000 in
theorem xw_X6_init : Cond.code yX6_init cX6_init 4 none ∈ GT := gt_in 601 rfl (by decide +kernel)
theorem ok_X6_init : MOK mX6_init 3 := ⟨xw_X6_init, iw_NineSaints_Planner, by decide +kernel, by decide +kernel, by decide⟩
theorem mi_X6_init : MI mX6_init 3 := ⟨ok_X6_init, gt_in 600 (by decide +kernel) (by decide +kernel), rfl, rfl⟩
set_option maxRecDepth 100000 in
theorem xw_X6_leastBehind : Cond.code yX6_leastBehind cX6_leastBehind 5 (some .int) ∈ GT := gt_in 1361 rfl (by decide +kernel)
theorem ok_X6_leastBehind : MOK mX6_leastBehind 2 := ⟨xw_X6_leastBehind, iw_NineSaints_Planner, by decide +kernel, by decide +kernel, by decide⟩
theorem mv_X6_leastBehind : MV mX6_leastBehind 2 6 := ⟨ok_X6_leastBehind, gt_in 1360 (by decide +kernel) (by decide +kernel), gt_in 51 (by decide +kernel) (by decide +kernel), _, rfl, rfl⟩
set_option maxRecDepth 100000 in
theorem xw_X6_luckyIn : Cond.code yX6_luckyIn cX6_luckyIn 4 (some .boolean) ∈ GT := gt_in 1444 rfl (by decide +kernel)
theorem ok_X6_luckyIn : MOK mX6_luckyIn 1 := ⟨xw_X6_luckyIn, iw_NineSaints_Planner, by decide +kernel, by decide +kernel, by decide⟩
theorem mv_X6_luckyIn : MV mX6_luckyIn 1 6 := ⟨ok_X6_luckyIn, gt_in 1442 (by decide +kernel) (by decide +kernel), gt_in 1443 (by decide +kernel) (by decide +kernel), _, rfl, rfl⟩
set_option maxRecDepth 100000 in
theorem xw_X6_pick : Cond.code yX6_pick cX6_pick 7 (some .int) ∈ GT := gt_in 1448 rfl (by decide +kernel)
theorem ok_X6_pick : MOK mX6_pick 1 := ⟨xw_X6_pick, iw_NineSaints_Planner, by decide +kernel, by decide +kernel, by decide⟩
theorem mv_X6_pick : MV mX6_pick 1 6 := ⟨ok_X6_pick, gt_in 1447 (by decide +kernel) (by decide +kernel), gt_in 58 (by decide +kernel) (by decide +kernel), _, rfl, rfl⟩
set_option maxRecDepth 100000 in
theorem xw_X6_price : Cond.code yX6_price cX6_price 3 (some .int) ∈ GT := gt_in 1369 rfl (by decide +kernel)
theorem ok_X6_price : MOK mX6_price 2 := ⟨xw_X6_price, iw_NineSaints_Planner, by decide +kernel, by decide +kernel, by decide⟩
theorem mv_X6_price : MV mX6_price 2 6 := ⟨ok_X6_price, gt_in 1368 (by decide +kernel) (by decide +kernel), gt_in 53 (by decide +kernel) (by decide +kernel), _, rfl, rfl⟩
set_option maxRecDepth 100000 in
theorem xw_X6_solve : Cond.code yX6_solve cX6_solve 6 (some .int) ∈ GT := gt_in 1343 rfl (by decide +kernel)
theorem ok_X6_solve : MOK mX6_solve 2 := ⟨xw_X6_solve, iw_NineSaints_Planner, by decide +kernel, by decide +kernel, by decide⟩
theorem mv_X6_solve : MV mX6_solve 2 6 := ⟨ok_X6_solve, gt_in 1341 (by decide +kernel) (by decide +kernel), gt_in 1342 (by decide +kernel) (by decide +kernel), _, rfl, rfl⟩
set_option maxRecDepth 100000 in
theorem xw_X6_takeTurn : Cond.code yX6_takeTurn cX6_takeTurn 6 (some .boolean) ∈ GT := gt_in 1428 rfl (by decide +kernel)
theorem ok_X6_takeTurn : MOK mX6_takeTurn 1 := ⟨xw_X6_takeTurn, iw_NineSaints_Planner, by decide +kernel, by decide +kernel, by decide⟩
theorem mv_X6_takeTurn : MV mX6_takeTurn 1 6 := ⟨ok_X6_takeTurn, gt_in 1426 (by decide +kernel) (by decide +kernel), gt_in 1427 (by decide +kernel) (by decide +kernel), _, rfl, rfl⟩
set_option maxRecDepth 100000 in
theorem xw_X7_advance : Cond.code yX7_advance cX7_advance 3 none ∈ GT := gt_in 857 rfl (by decide +kernel)
theorem ok_X7_advance : MOK mX7_advance 0 := ⟨xw_X7_advance, iw_NineSaints_Reader, by decide +kernel, by decide +kernel, by decide⟩
theorem mv_X7_advance : MV mX7_advance 0 7 := ⟨ok_X7_advance, gt_in 856 (by decide +kernel) (by decide +kernel), gt_in 6 (by decide +kernel) (by decide +kernel), _, rfl, rfl⟩
set_option maxRecDepth 100000 in
theorem xw_X7_askedCorner : Cond.code yX7_askedCorner cX7_askedCorner 4 (some .int) ∈ GT := gt_in 909 rfl (by decide +kernel)
theorem ok_X7_askedCorner : MOK mX7_askedCorner 1 := ⟨xw_X7_askedCorner, iw_NineSaints_Reader, by decide +kernel, by decide +kernel, by decide⟩
theorem mv_X7_askedCorner : MV mX7_askedCorner 1 7 := ⟨ok_X7_askedCorner, gt_in 908 (by decide +kernel) (by decide +kernel), gt_in 16 (by decide +kernel) (by decide +kernel), _, rfl, rfl⟩
set_option maxRecDepth 100000 in
theorem xw_X7_cut : Cond.code yX7_cut cX7_cut 7 none ∈ GT := gt_in 807 rfl (by decide +kernel)
theorem ok_X7_cut : MOK mX7_cut 1 := ⟨xw_X7_cut, iw_NineSaints_Reader, by decide +kernel, by decide +kernel, by decide⟩
theorem mv_X7_cut : MV mX7_cut 1 7 := ⟨ok_X7_cut, gt_in 806 (by decide +kernel) (by decide +kernel), gt_in 4 (by decide +kernel) (by decide +kernel), _, rfl, rfl⟩
set_option maxRecDepth 100000 in
theorem xw_X7_emit : Cond.code yX7_emit cX7_emit 2 none ∈ GT := gt_in 937 rfl (by decide +kernel)
theorem ok_X7_emit : MOK mX7_emit 1 := ⟨xw_X7_emit, iw_NineSaints_Reader, by decide +kernel, by decide +kernel, by decide⟩
theorem mv_X7_emit : MV mX7_emit 1 7 := ⟨ok_X7_emit, gt_in 936 (by decide +kernel) (by decide +kernel), gt_in 22 (by decide +kernel) (by decide +kernel), _, rfl, rfl⟩
set_option maxRecDepth 100000 in
theorem xw_X7_exceptionStands : Cond.code yX7_exceptionStands cX7_exceptionStands 2 (some .boolean) ∈ GT := gt_in 957 rfl (by decide +kernel)
theorem ok_X7_exceptionStands : MOK mX7_exceptionStands 0 := ⟨xw_X7_exceptionStands, iw_NineSaints_Reader, by decide +kernel, by decide +kernel, by decide⟩
theorem mv_X7_exceptionStands : MV mX7_exceptionStands 0 7 := ⟨ok_X7_exceptionStands, gt_in 956 (by decide +kernel) (by decide +kernel), gt_in 27 (by decide +kernel) (by decide +kernel), _, rfl, rfl⟩
set_option maxRecDepth 100000 in
theorem xw_X7_fact : Cond.code yX7_fact cX7_fact 4 (some .boolean) ∈ GT := gt_in 929 rfl (by decide +kernel)
theorem ok_X7_fact : MOK mX7_fact 1 := ⟨xw_X7_fact, iw_NineSaints_Reader, by decide +kernel, by decide +kernel, by decide⟩
theorem mv_X7_fact : MV mX7_fact 1 7 := ⟨ok_X7_fact, gt_in 928 (by decide +kernel) (by decide +kernel), gt_in 20 (by decide +kernel) (by decide +kernel), _, rfl, rfl⟩
set_option maxRecDepth 100000 in
theorem xw_X7_fail : Cond.code yX7_fail cX7_fail 3 (some .boolean) ∈ GT := gt_in 877 rfl (by decide +kernel)
theorem ok_X7_fail : MOK mX7_fail 2 := ⟨xw_X7_fail, iw_NineSaints_Reader, by decide +kernel, by decide +kernel, by decide⟩
theorem mv_X7_fail : MV mX7_fail 2 7 := ⟨ok_X7_fail, gt_in 875 (by decide +kernel) (by decide +kernel), gt_in 876 (by decide +kernel) (by decide +kernel), _, rfl, rfl⟩
set_option maxRecDepth 100000 in
theorem xw_X7_full : Cond.code yX7_full cX7_full 3 (some .boolean) ∈ GT := gt_in 873 rfl (by decide +kernel)
theorem ok_X7_full : MOK mX7_full 2 := ⟨xw_X7_full, iw_NineSaints_Reader, by decide +kernel, by decide +kernel, by decide⟩
theorem mv_X7_full : MV mX7_full 2 7 := ⟨ok_X7_full, gt_in 872 (by decide +kernel) (by decide +kernel), gt_in 8 (by decide +kernel) (by decide +kernel), _, rfl, rfl⟩
set_option maxRecDepth 100000 in
theorem xw_X7_init : Cond.code yX7_init cX7_init 3 none ∈ GT := gt_in 292 rfl (by decide +kernel)
theorem ok_X7_init : MOK mX7_init 2 := ⟨xw_X7_init, iw_NineSaints_Reader, by decide +kernel, by decide +kernel, by decide⟩
theorem mi_X7_init : MI mX7_init 2 := ⟨ok_X7_init, gt_in 291 (by decide +kernel) (by decide +kernel), rfl, rfl⟩
set_option maxRecDepth 100000 in
theorem xw_X7_isSign : Cond.code yX7_isSign cX7_isSign 2 (some .boolean) ∈ GT := gt_in 941 rfl (by decide +kernel)
theorem ok_X7_isSign : MOK mX7_isSign 1 := ⟨xw_X7_isSign, iw_NineSaints_Reader, by decide +kernel, by decide +kernel, by decide⟩
theorem mv_X7_isSign : MV mX7_isSign 1 7 := ⟨ok_X7_isSign, gt_in 940 (by decide +kernel) (by decide +kernel), gt_in 23 (by decide +kernel) (by decide +kernel), _, rfl, rfl⟩
set_option maxRecDepth 100000 in
theorem xw_X7_kindOfWord : Cond.code yX7_kindOfWord cX7_kindOfWord 6 (some .int) ∈ GT := gt_in 811 rfl (by decide +kernel)
theorem ok_X7_kindOfWord : MOK mX7_kindOfWord 2 := ⟨xw_X7_kindOfWord, iw_NineSaints_Reader, by decide +kernel, by decide +kernel, by decide⟩
theorem mv_X7_kindOfWord : MV mX7_kindOfWord 2 7 := ⟨ok_X7_kindOfWord, gt_in 810 (by decide +kernel) (by decide +kernel), gt_in 5 (by decide +kernel) (by decide +kernel), _, rfl, rfl⟩
set_option maxRecDepth 100000 in
theorem xw_X7_letterOfToken : Cond.code yX7_letterOfToken cX7_letterOfToken 2 (some .int) ∈ GT := gt_in 893 rfl (by decide +kernel)
theorem ok_X7_letterOfToken : MOK mX7_letterOfToken 1 := ⟨xw_X7_letterOfToken, iw_NineSaints_Reader, by decide +kernel, by decide +kernel, by decide⟩
theorem mv_X7_letterOfToken : MV mX7_letterOfToken 1 7 := ⟨ok_X7_letterOfToken, gt_in 892 (by decide +kernel) (by decide +kernel), gt_in 12 (by decide +kernel) (by decide +kernel), _, rfl, rfl⟩
set_option maxRecDepth 100000 in
theorem xw_X7_more : Cond.code yX7_more cX7_more 1 (some .boolean) ∈ GT := gt_in 861 rfl (by decide +kernel)
theorem ok_X7_more : MOK mX7_more 0 := ⟨xw_X7_more, iw_NineSaints_Reader, by decide +kernel, by decide +kernel, by decide⟩
theorem mv_X7_more : MV mX7_more 0 7 := ⟨ok_X7_more, gt_in 859 (by decide +kernel) (by decide +kernel), gt_in 860 (by decide +kernel) (by decide +kernel), _, rfl, rfl⟩
set_option maxRecDepth 100000 in
theorem xw_X7_nameStands : Cond.code yX7_nameStands cX7_nameStands 1 (some .boolean) ∈ GT := gt_in 885 rfl (by decide +kernel)
theorem ok_X7_nameStands : MOK mX7_nameStands 0 := ⟨xw_X7_nameStands, iw_NineSaints_Reader, by decide +kernel, by decide +kernel, by decide⟩
theorem mv_X7_nameStands : MV mX7_nameStands 0 7 := ⟨ok_X7_nameStands, gt_in 884 (by decide +kernel) (by decide +kernel), gt_in 10 (by decide +kernel) (by decide +kernel), _, rfl, rfl⟩
set_option maxRecDepth 100000 in
theorem xw_X7_named : Cond.code yX7_named cX7_named 5 (some .int) ∈ GT := gt_in 889 rfl (by decide +kernel)
theorem ok_X7_named : MOK mX7_named 2 := ⟨xw_X7_named, iw_NineSaints_Reader, by decide +kernel, by decide +kernel, by decide⟩
theorem mv_X7_named : MV mX7_named 2 7 := ⟨ok_X7_named, gt_in 888 (by decide +kernel) (by decide +kernel), gt_in 11 (by decide +kernel) (by decide +kernel), _, rfl, rfl⟩
set_option maxRecDepth 100000 in
theorem xw_X7_newName : Cond.code yX7_newName cX7_newName 4 (some .boolean) ∈ GT := gt_in 881 rfl (by decide +kernel)
theorem ok_X7_newName : MOK mX7_newName 2 := ⟨xw_X7_newName, iw_NineSaints_Reader, by decide +kernel, by decide +kernel, by decide⟩
theorem mv_X7_newName : MV mX7_newName 2 7 := ⟨ok_X7_newName, gt_in 880 (by decide +kernel) (by decide +kernel), gt_in 9 (by decide +kernel) (by decide +kernel), _, rfl, rfl⟩
set_option maxRecDepth 100000 in
theorem xw_X7_number : Cond.code yX7_number cX7_number 4 (some .boolean) ∈ GT := gt_in 901 rfl (by decide +kernel)
theorem ok_X7_number : MOK mX7_number 2 := ⟨xw_X7_number, iw_NineSaints_Reader, by decide +kernel, by decide +kernel, by decide⟩
theorem mv_X7_number : MV mX7_number 2 7 := ⟨ok_X7_number, gt_in 900 (by decide +kernel) (by decide +kernel), gt_in 14 (by decide +kernel) (by decide +kernel), _, rfl, rfl⟩
set_option maxRecDepth 100000 in
theorem xw_X7_open : Cond.code yX7_open cX7_open 2 none ∈ GT := gt_in 800 rfl (by decide +kernel)
theorem ok_X7_open : MOK mX7_open 1 := ⟨xw_X7_open, iw_NineSaints_Reader, by decide +kernel, by decide +kernel, by decide⟩
theorem mv_X7_open : MV mX7_open 1 7 := ⟨ok_X7_open, gt_in 798 (by decide +kernel) (by decide +kernel), gt_in 799 (by decide +kernel) (by decide +kernel), _, rfl, rfl⟩
set_option maxRecDepth 100000 in
theorem xw_X7_part : Cond.code yX7_part cX7_part 5 (some .boolean) ∈ GT := gt_in 953 rfl (by decide +kernel)
theorem ok_X7_part : MOK mX7_part 1 := ⟨xw_X7_part, iw_NineSaints_Reader, by decide +kernel, by decide +kernel, by decide⟩
theorem mv_X7_part : MV mX7_part 1 7 := ⟨ok_X7_part, gt_in 952 (by decide +kernel) (by decide +kernel), gt_in 26 (by decide +kernel) (by decide +kernel), _, rfl, rfl⟩
set_option maxRecDepth 100000 in
theorem xw_X7_roomIn : Cond.code yX7_roomIn cX7_roomIn 2 (some .boolean) ∈ GT := gt_in 933 rfl (by decide +kernel)
theorem ok_X7_roomIn : MOK mX7_roomIn 1 := ⟨xw_X7_roomIn, iw_NineSaints_Reader, by decide +kernel, by decide +kernel, by decide⟩
theorem mv_X7_roomIn : MV mX7_roomIn 1 7 := ⟨ok_X7_roomIn, gt_in 932 (by decide +kernel) (by decide +kernel), gt_in 21 (by decide +kernel) (by decide +kernel), _, rfl, rfl⟩
set_option maxRecDepth 100000 in
theorem xw_X7_sign : Cond.code yX7_sign cX7_sign 2 (some .boolean) ∈ GT := gt_in 945 rfl (by decide +kernel)
theorem ok_X7_sign : MOK mX7_sign 1 := ⟨xw_X7_sign, iw_NineSaints_Reader, by decide +kernel, by decide +kernel, by decide⟩
theorem mv_X7_sign : MV mX7_sign 1 7 := ⟨ok_X7_sign, gt_in 944 (by decide +kernel) (by decide +kernel), gt_in 24 (by decide +kernel) (by decide +kernel), _, rfl, rfl⟩
set_option maxRecDepth 100000 in
theorem xw_X7_statement : Cond.code yX7_statement cX7_statement 2 (some .boolean) ∈ GT := gt_in 865 rfl (by decide +kernel)
theorem ok_X7_statement : MOK mX7_statement 0 := ⟨xw_X7_statement, iw_NineSaints_Reader, by decide +kernel, by decide +kernel, by decide⟩
theorem mv_X7_statement : MV mX7_statement 0 7 := ⟨ok_X7_statement, gt_in 863 (by decide +kernel) (by decide +kernel), gt_in 864 (by decide +kernel) (by decide +kernel), _, rfl, rfl⟩
set_option maxRecDepth 100000 in
theorem xw_X7_sum : Cond.code yX7_sum cX7_sum 5 (some .boolean) ∈ GT := gt_in 949 rfl (by decide +kernel)
theorem ok_X7_sum : MOK mX7_sum 1 := ⟨xw_X7_sum, iw_NineSaints_Reader, by decide +kernel, by decide +kernel, by decide⟩
theorem mv_X7_sum : MV mX7_sum 1 7 := ⟨ok_X7_sum, gt_in 948 (by decide +kernel) (by decide +kernel), gt_in 25 (by decide +kernel) (by decide +kernel), _, rfl, rfl⟩
set_option maxRecDepth 100000 in
theorem xw_X7_tellBalcony : Cond.code yX7_tellBalcony cX7_tellBalcony 3 (some .boolean) ∈ GT := gt_in 921 rfl (by decide +kernel)
theorem ok_X7_tellBalcony : MOK mX7_tellBalcony 0 := ⟨xw_X7_tellBalcony, iw_NineSaints_Reader, by decide +kernel, by decide +kernel, by decide⟩
theorem mv_X7_tellBalcony : MV mX7_tellBalcony 0 7 := ⟨ok_X7_tellBalcony, gt_in 920 (by decide +kernel) (by decide +kernel), gt_in 18 (by decide +kernel) (by decide +kernel), _, rfl, rfl⟩
set_option maxRecDepth 100000 in
theorem xw_X7_tellCorner : Cond.code yX7_tellCorner cX7_tellCorner 2 (some .boolean) ∈ GT := gt_in 869 rfl (by decide +kernel)
theorem ok_X7_tellCorner : MOK mX7_tellCorner 0 := ⟨xw_X7_tellCorner, iw_NineSaints_Reader, by decide +kernel, by decide +kernel, by decide⟩
theorem mv_X7_tellCorner : MV mX7_tellCorner 0 7 := ⟨ok_X7_tellCorner, gt_in 868 (by decide +kernel) (by decide +kernel), gt_in 7 (by decide +kernel) (by decide +kernel), _, rfl, rfl⟩
set_option maxRecDepth 100000 in
theorem xw_X7_tellLane : Cond.code yX7_tellLane cX7_tellLane 4 (some .boolean) ∈ GT := gt_in 905 rfl (by decide +kernel)
theorem ok_X7_tellLane : MOK mX7_tellLane 0 := ⟨xw_X7_tellLane, iw_NineSaints_Reader, by decide +kernel, by decide +kernel, by decide⟩
theorem mv_X7_tellLane : MV mX7_tellLane 0 7 := ⟨ok_X7_tellLane, gt_in 904 (by decide +kernel) (by decide +kernel), gt_in 15 (by decide +kernel) (by decide +kernel), _, rfl, rfl⟩
set_option maxRecDepth 100000 in
theorem xw_X7_tellSaint : Cond.code yX7_tellSaint cX7_tellSaint 3 (some .boolean) ∈ GT := gt_in 917 rfl (by decide +kernel)
theorem ok_X7_tellSaint : MOK mX7_tellSaint 0 := ⟨xw_X7_tellSaint, iw_NineSaints_Reader, by decide +kernel, by decide +kernel, by decide⟩
theorem mv_X7_tellSaint : MV mX7_tellSaint 0 7 := ⟨ok_X7_tellSaint, gt_in 916 (by decide +kernel) (by decide +kernel), gt_in 17 (by decide +kernel) (by decide +kernel), _, rfl, rfl⟩
set_option maxRecDepth 100000 in
theorem xw_X7_test : Cond.code yX7_test cX7_test 5 (some .boolean) ∈ GT := gt_in 925 rfl (by decide +kernel)
theorem ok_X7_test : MOK mX7_test 1 := ⟨xw_X7_test, iw_NineSaints_Reader, by decide +kernel, by decide +kernel, by decide⟩
theorem mv_X7_test : MV mX7_test 1 7 := ⟨ok_X7_test, gt_in 924 (by decide +kernel) (by decide +kernel), gt_in 19 (by decide +kernel) (by decide +kernel), _, rfl, rfl⟩
set_option maxRecDepth 100000 in
theorem xw_X7_word : Cond.code yX7_word cX7_word 2 (some .boolean) ∈ GT := gt_in 897 rfl (by decide +kernel)
theorem ok_X7_word : MOK mX7_word 1 := ⟨xw_X7_word, iw_NineSaints_Reader, by decide +kernel, by decide +kernel, by decide⟩
theorem mv_X7_word : MV mX7_word 1 7 := ⟨ok_X7_word, gt_in 896 (by decide +kernel) (by decide +kernel), gt_in 13 (by decide +kernel) (by decide +kernel), _, rfl, rfl⟩
set_option maxRecDepth 100000 in
theorem xw_X8_cornerAt : Cond.code yX8_cornerAt cX8_cornerAt 4 (some .int) ∈ GT := gt_in 1095 rfl (by decide +kernel)
theorem ok_X8_cornerAt : MOK mX8_cornerAt 1 := ⟨xw_X8_cornerAt, iw_NineSaints_Track, by decide +kernel, by decide +kernel, by decide⟩
theorem mv_X8_cornerAt : MV mX8_cornerAt 1 8 := ⟨ok_X8_cornerAt, gt_in 1093 (by decide +kernel) (by decide +kernel), gt_in 1094 (by decide +kernel) (by decide +kernel), _, rfl, rfl⟩
set_option maxRecDepth 100000 in
theorem xw_X8_init : Cond.code yX8_init cX8_init 2 none ∈ GT := gt_in 354 rfl (by decide +kernel)
theorem ok_X8_init : MOK mX8_init 1 := ⟨xw_X8_init, iw_NineSaints_Track, by decide +kernel, by decide +kernel, by decide⟩
theorem mi_X8_init : MI mX8_init 1 := ⟨ok_X8_init, gt_in 353 (by decide +kernel) (by decide +kernel), rfl, rfl⟩
set_option maxRecDepth 100000 in
theorem xw_X8_laneAt : Cond.code yX8_laneAt cX8_laneAt 3 (some .int) ∈ GT := gt_in 1103 rfl (by decide +kernel)
theorem ok_X8_laneAt : MOK mX8_laneAt 1 := ⟨xw_X8_laneAt, iw_NineSaints_Track, by decide +kernel, by decide +kernel, by decide⟩
theorem mv_X8_laneAt : MV mX8_laneAt 1 8 := ⟨ok_X8_laneAt, gt_in 1101 (by decide +kernel) (by decide +kernel), gt_in 1102 (by decide +kernel) (by decide +kernel), _, rfl, rfl⟩
set_option maxRecDepth 100000 in
theorem xw_X8_lastCorner : Cond.code yX8_lastCorner cX8_lastCorner 1 (some .int) ∈ GT := gt_in 719 rfl (by decide +kernel)
theorem ok_X8_lastCorner : MOK mX8_lastCorner 0 := ⟨xw_X8_lastCorner, iw_NineSaints_Track, by decide +kernel, by decide +kernel, by decide⟩
theorem mv_X8_lastCorner : MV mX8_lastCorner 0 8 := ⟨ok_X8_lastCorner, gt_in 717 (by decide +kernel) (by decide +kernel), gt_in 718 (by decide +kernel) (by decide +kernel), _, rfl, rfl⟩
set_option maxRecDepth 100000 in
theorem xw_X8_start : Cond.code yX8_start cX8_start 2 none ∈ GT := gt_in 711 rfl (by decide +kernel)
theorem ok_X8_start : MOK mX8_start 1 := ⟨xw_X8_start, iw_NineSaints_Track, by decide +kernel, by decide +kernel, by decide⟩
theorem mv_X8_start : MV mX8_start 1 8 := ⟨ok_X8_start, gt_in 709 (by decide +kernel) (by decide +kernel), gt_in 710 (by decide +kernel) (by decide +kernel), _, rfl, rfl⟩
set_option maxRecDepth 100000 in
theorem xw_X8_stay : Cond.code yX8_stay cX8_stay 2 none ∈ GT := gt_in 715 rfl (by decide +kernel)
theorem ok_X8_stay : MOK mX8_stay 1 := ⟨xw_X8_stay, iw_NineSaints_Track, by decide +kernel, by decide +kernel, by decide⟩
theorem mv_X8_stay : MV mX8_stay 1 8 := ⟨ok_X8_stay, gt_in 713 (by decide +kernel) (by decide +kernel), gt_in 714 (by decide +kernel) (by decide +kernel), _, rfl, rfl⟩
set_option maxRecDepth 100000 in
theorem xw_X8_walkBy : Cond.code yX8_walkBy cX8_walkBy 4 none ∈ GT := gt_in 731 rfl (by decide +kernel)
theorem ok_X8_walkBy : MOK mX8_walkBy 3 := ⟨xw_X8_walkBy, iw_NineSaints_Track, by decide +kernel, by decide +kernel, by decide⟩
theorem mv_X8_walkBy : MV mX8_walkBy 3 8 := ⟨ok_X8_walkBy, gt_in 729 (by decide +kernel) (by decide +kernel), gt_in 730 (by decide +kernel) (by decide +kernel), _, rfl, rfl⟩
set_option maxRecDepth 100000 in
theorem xw_X9_accept : Cond.code yX9_accept cX9_accept 5 (some .boolean) ∈ GT := gt_in 1493 rfl (by decide +kernel)
theorem ok_X9_accept : MOK mX9_accept 2 := ⟨xw_X9_accept, iw_NineSaints_Ways, by decide +kernel, by decide +kernel, by decide⟩
theorem mv_X9_accept : MV mX9_accept 2 9 := ⟨ok_X9_accept, gt_in 1491 (by decide +kernel) (by decide +kernel), gt_in 1492 (by decide +kernel) (by decide +kernel), _, rfl, rfl⟩
set_option maxRecDepth 100000 in
theorem xw_X9_addStep : Cond.code yX9_addStep cX9_addStep 3 none ∈ GT := gt_in 1050 rfl (by decide +kernel)
theorem ok_X9_addStep : MOK mX9_addStep 2 := ⟨xw_X9_addStep, iw_NineSaints_Ways, by decide +kernel, by decide +kernel, by decide⟩
theorem mv_X9_addStep : MV mX9_addStep 2 9 := ⟨ok_X9_addStep, gt_in 1049 (by decide +kernel) (by decide +kernel), gt_in 33 (by decide +kernel) (by decide +kernel), _, rfl, rfl⟩
set_option maxRecDepth 100000 in
theorem xw_X9_adopt : Cond.code yX9_adopt cX9_adopt 7 none ∈ GT := gt_in 1416 rfl (by decide +kernel)
theorem ok_X9_adopt : MOK mX9_adopt 3 := ⟨xw_X9_adopt, iw_NineSaints_Ways, by decide +kernel, by decide +kernel, by decide⟩
theorem mv_X9_adopt : MV mX9_adopt 3 9 := ⟨ok_X9_adopt, gt_in 1414 (by decide +kernel) (by decide +kernel), gt_in 1415 (by decide +kernel) (by decide +kernel), _, rfl, rfl⟩
set_option maxRecDepth 100000 in
theorem xw_X9_bar : Cond.code yX9_bar cX9_bar 3 (some .boolean) ∈ GT := gt_in 1275 rfl (by decide +kernel)
theorem ok_X9_bar : MOK mX9_bar 2 := ⟨xw_X9_bar, iw_NineSaints_Ways, by decide +kernel, by decide +kernel, by decide⟩
theorem mv_X9_bar : MV mX9_bar 2 9 := ⟨ok_X9_bar, gt_in 1273 (by decide +kernel) (by decide +kernel), gt_in 1274 (by decide +kernel) (by decide +kernel), _, rfl, rfl⟩
set_option maxRecDepth 100000 in
theorem xw_X9_begin : Cond.code yX9_begin cX9_begin 1 none ∈ GT := gt_in 698 rfl (by decide +kernel)
theorem ok_X9_begin : MOK mX9_begin 0 := ⟨xw_X9_begin, iw_NineSaints_Ways, by decide +kernel, by decide +kernel, by decide⟩
theorem mv_X9_begin : MV mX9_begin 0 9 := ⟨ok_X9_begin, gt_in 696 (by decide +kernel) (by decide +kernel), gt_in 697 (by decide +kernel) (by decide +kernel), _, rfl, rfl⟩
set_option maxRecDepth 100000 in
theorem xw_X9_blocked : Cond.code yX9_blocked cX9_blocked 2 (some .boolean) ∈ GT := gt_in 1348 rfl (by decide +kernel)
theorem ok_X9_blocked : MOK mX9_blocked 1 := ⟨xw_X9_blocked, iw_NineSaints_Ways, by decide +kernel, by decide +kernel, by decide⟩
theorem mv_X9_blocked : MV mX9_blocked 1 9 := ⟨ok_X9_blocked, gt_in 1346 (by decide +kernel) (by decide +kernel), gt_in 1347 (by decide +kernel) (by decide +kernel), _, rfl, rfl⟩
set_option maxRecDepth 100000 in
theorem xw_X9_commit : Cond.code yX9_commit cX9_commit 1 none ∈ GT := gt_in 1059 rfl (by decide +kernel)
theorem ok_X9_commit : MOK mX9_commit 0 := ⟨xw_X9_commit, iw_NineSaints_Ways, by decide +kernel, by decide +kernel, by decide⟩
theorem mv_X9_commit : MV mX9_commit 0 9 := ⟨ok_X9_commit, gt_in 1057 (by decide +kernel) (by decide +kernel), gt_in 1058 (by decide +kernel) (by decide +kernel), _, rfl, rfl⟩
set_option maxRecDepth 100000 in
theorem xw_X9_draw : Cond.code yX9_draw cX9_draw 5 (some .int) ∈ GT := gt_in 1477 rfl (by decide +kernel)
theorem ok_X9_draw : MOK mX9_draw 1 := ⟨xw_X9_draw, iw_NineSaints_Ways, by decide +kernel, by decide +kernel, by decide⟩
theorem mv_X9_draw : MV mX9_draw 1 9 := ⟨ok_X9_draw, gt_in 1475 (by decide +kernel) (by decide +kernel), gt_in 1476 (by decide +kernel) (by decide +kernel), _, rfl, rfl⟩
set_option maxRecDepth 100000 in
theorem xw_X9_init : Cond.code yX9_init cX9_init 3 none ∈ GT := gt_in 347 rfl (by decide +kernel)
theorem ok_X9_init : MOK mX9_init 1 := ⟨xw_X9_init, iw_NineSaints_Ways, by decide +kernel, by decide +kernel, by decide⟩
theorem mi_X9_init : MI mX9_init 1 := ⟨ok_X9_init, gt_in 346 (by decide +kernel) (by decide +kernel), rfl, rfl⟩
set_option maxRecDepth 100000 in
theorem xw_X9_keep : Cond.code yX9_keep cX9_keep 1 none ∈ GT := gt_in 1054 rfl (by decide +kernel)
theorem ok_X9_keep : MOK mX9_keep 0 := ⟨xw_X9_keep, iw_NineSaints_Ways, by decide +kernel, by decide +kernel, by decide⟩
theorem mv_X9_keep : MV mX9_keep 0 9 := ⟨ok_X9_keep, gt_in 1052 (by decide +kernel) (by decide +kernel), gt_in 1053 (by decide +kernel) (by decide +kernel), _, rfl, rfl⟩
set_option maxRecDepth 100000 in
theorem xw_X9_laneTo : Cond.code yX9_laneTo cX9_laneTo 3 (some .int) ∈ GT := gt_in 723 rfl (by decide +kernel)
theorem ok_X9_laneTo : MOK mX9_laneTo 2 := ⟨xw_X9_laneTo, iw_NineSaints_Ways, by decide +kernel, by decide +kernel, by decide⟩
theorem mv_X9_laneTo : MV mX9_laneTo 2 9 := ⟨ok_X9_laneTo, gt_in 722 (by decide +kernel) (by decide +kernel), gt_in 2 (by decide +kernel) (by decide +kernel), _, rfl, rfl⟩
set_option maxRecDepth 100000 in
theorem xw_X9_onBits : Cond.code yX9_onBits cX9_onBits 1 (some .int) ∈ GT := gt_in 1005 rfl (by decide +kernel)
theorem ok_X9_onBits : MOK mX9_onBits 0 := ⟨xw_X9_onBits, iw_NineSaints_Ways, by decide +kernel, by decide +kernel, by decide⟩
theorem mv_X9_onBits : MV mX9_onBits 0 9 := ⟨ok_X9_onBits, gt_in 1003 (by decide +kernel) (by decide +kernel), gt_in 1004 (by decide +kernel) (by decide +kernel), _, rfl, rfl⟩
set_option maxRecDepth 100000 in
theorem xw_X9_pause : Cond.code yX9_pause cX9_pause 4 (some .int) ∈ GT := gt_in 1067 rfl (by decide +kernel)
theorem ok_X9_pause : MOK mX9_pause 2 := ⟨xw_X9_pause, iw_NineSaints_Ways, by decide +kernel, by decide +kernel, by decide⟩
theorem mv_X9_pause : MV mX9_pause 2 9 := ⟨ok_X9_pause, gt_in 1065 (by decide +kernel) (by decide +kernel), gt_in 1066 (by decide +kernel) (by decide +kernel), _, rfl, rfl⟩
set_option maxRecDepth 100000 in
theorem xw_X9_replay : Cond.code yX9_replay cX9_replay 6 none ∈ GT := gt_in 707 rfl (by decide +kernel)
theorem ok_X9_replay : MOK mX9_replay 1 := ⟨xw_X9_replay, iw_NineSaints_Ways, by decide +kernel, by decide +kernel, by decide⟩
theorem mv_X9_replay : MV mX9_replay 1 9 := ⟨ok_X9_replay, gt_in 706 (by decide +kernel) (by decide +kernel), gt_in 1 (by decide +kernel) (by decide +kernel), _, rfl, rfl⟩
set_option maxRecDepth 100000 in
theorem xw_X9_replayAll : Cond.code yX9_replayAll cX9_replayAll 2 none ∈ GT := gt_in 703 rfl (by decide +kernel)
theorem ok_X9_replayAll : MOK mX9_replayAll 0 := ⟨xw_X9_replayAll, iw_NineSaints_Ways, by decide +kernel, by decide +kernel, by decide⟩
theorem mv_X9_replayAll : MV mX9_replayAll 0 9 := ⟨ok_X9_replayAll, gt_in 702 (by decide +kernel) (by decide +kernel), gt_in 0 (by decide +kernel) (by decide +kernel), _, rfl, rfl⟩
set_option maxRecDepth 100000 in
theorem xw_X9_revert : Cond.code yX9_revert cX9_revert 1 (some .boolean) ∈ GT := gt_in 1083 rfl (by decide +kernel)
theorem ok_X9_revert : MOK mX9_revert 0 := ⟨xw_X9_revert, iw_NineSaints_Ways, by decide +kernel, by decide +kernel, by decide⟩
theorem mv_X9_revert : MV mX9_revert 0 9 := ⟨ok_X9_revert, gt_in 1081 (by decide +kernel) (by decide +kernel), gt_in 1082 (by decide +kernel) (by decide +kernel), _, rfl, rfl⟩
set_option maxRecDepth 100000 in
theorem xw_X9_shutBits : Cond.code yX9_shutBits cX9_shutBits 1 (some .int) ∈ GT := gt_in 1001 rfl (by decide +kernel)
theorem ok_X9_shutBits : MOK mX9_shutBits 0 := ⟨xw_X9_shutBits, iw_NineSaints_Ways, by decide +kernel, by decide +kernel, by decide⟩
theorem mv_X9_shutBits : MV mX9_shutBits 0 9 := ⟨ok_X9_shutBits, gt_in 999 (by decide +kernel) (by decide +kernel), gt_in 1000 (by decide +kernel) (by decide +kernel), _, rfl, rfl⟩
set_option maxRecDepth 100000 in
theorem xw_X9_soften : Cond.code yX9_soften cX9_soften 2 (some .boolean) ∈ GT := gt_in 1238 rfl (by decide +kernel)
theorem ok_X9_soften : MOK mX9_soften 1 := ⟨xw_X9_soften, iw_NineSaints_Ways, by decide +kernel, by decide +kernel, by decide⟩
theorem mv_X9_soften : MV mX9_soften 1 9 := ⟨ok_X9_soften, gt_in 1236 (by decide +kernel) (by decide +kernel), gt_in 1237 (by decide +kernel) (by decide +kernel), _, rfl, rfl⟩
set_option maxRecDepth 100000 in
theorem xw_X9_steps : Cond.code yX9_steps cX9_steps 2 (some .int) ∈ GT := gt_in 1037 rfl (by decide +kernel)
theorem ok_X9_steps : MOK mX9_steps 1 := ⟨xw_X9_steps, iw_NineSaints_Ways, by decide +kernel, by decide +kernel, by decide⟩
theorem mv_X9_steps : MV mX9_steps 1 9 := ⟨ok_X9_steps, gt_in 1035 (by decide +kernel) (by decide +kernel), gt_in 1036 (by decide +kernel) (by decide +kernel), _, rfl, rfl⟩
set_option maxRecDepth 100000 in
theorem xw_X9_sumOf : Cond.code yX9_sumOf cX9_sumOf 5 (some .int) ∈ GT := gt_in 1481 rfl (by decide +kernel)
theorem ok_X9_sumOf : MOK mX9_sumOf 2 := ⟨xw_X9_sumOf, iw_NineSaints_Ways, by decide +kernel, by decide +kernel, by decide⟩
theorem mv_X9_sumOf : MV mX9_sumOf 2 9 := ⟨ok_X9_sumOf, gt_in 1480 (by decide +kernel) (by decide +kernel), gt_in 61 (by decide +kernel) (by decide +kernel), _, rfl, rfl⟩
set_option maxRecDepth 100000 in
theorem xw_X9_tryWay : Cond.code yX9_tryWay cX9_tryWay 10 (some .int) ∈ GT := gt_in 1497 rfl (by decide +kernel)
theorem ok_X9_tryWay : MOK mX9_tryWay 4 := ⟨xw_X9_tryWay, iw_NineSaints_Ways, by decide +kernel, by decide +kernel, by decide⟩
theorem mv_X9_tryWay : MV mX9_tryWay 4 9 := ⟨ok_X9_tryWay, gt_in 1496 (by decide +kernel) (by decide +kernel), gt_in 62 (by decide +kernel) (by decide +kernel), _, rfl, rfl⟩
set_option maxRecDepth 100000 in
theorem xw_X9_walk : Cond.code yX9_walk cX9_walk 6 (some .int) ∈ GT := gt_in 1046 rfl (by decide +kernel)
theorem ok_X9_walk : MOK mX9_walk 2 := ⟨xw_X9_walk, iw_NineSaints_Ways, by decide +kernel, by decide +kernel, by decide⟩
theorem mv_X9_walk : MV mX9_walk 2 9 := ⟨ok_X9_walk, gt_in 1044 (by decide +kernel) (by decide +kernel), gt_in 1045 (by decide +kernel) (by decide +kernel), _, rfl, rfl⟩
set_option maxRecDepth 100000 in
theorem xw_X9_wipe : Cond.code yX9_wipe cX9_wipe 2 (some .boolean) ∈ GT := gt_in 1075 rfl (by decide +kernel)
theorem ok_X9_wipe : MOK mX9_wipe 1 := ⟨xw_X9_wipe, iw_NineSaints_Ways, by decide +kernel, by decide +kernel, by decide⟩
theorem mv_X9_wipe : MV mX9_wipe 1 9 := ⟨ok_X9_wipe, gt_in 1073 (by decide +kernel) (by decide +kernel), gt_in 1074 (by decide +kernel) (by decide +kernel), _, rfl, rfl⟩
set_option maxRecDepth 100000 in
theorem xw_X10_allSaints : Cond.code yX10_allSaints cX10_allSaints 1 (some .int) ∈ GT := gt_in 1339 rfl (by decide +kernel)
theorem ok_X10_allSaints : MOK mX10_allSaints 0 := ⟨xw_X10_allSaints, iw_NineSaints, by decide +kernel, by decide +kernel, by decide⟩
theorem mv_X10_allSaints : MV mX10_allSaints 0 10 := ⟨ok_X10_allSaints, gt_in 1338 (by decide +kernel) (by decide +kernel), gt_in 49 (by decide +kernel) (by decide +kernel), _, rfl, rfl⟩
set_option maxRecDepth 100000 in
theorem xw_X10_back : Cond.code yX10_back cX10_back 2 (some .boolean) ∈ GT := gt_in 1489 rfl (by decide +kernel)
theorem ok_X10_back : MOK mX10_back 0 := ⟨xw_X10_back, iw_NineSaints, by decide +kernel, by decide +kernel, by decide⟩
theorem mv_X10_back : MV mX10_back 0 10 := ⟨ok_X10_back, gt_in 1487 (by decide +kernel) (by decide +kernel), gt_in 1488 (by decide +kernel) (by decide +kernel), _, rfl, rfl⟩
set_option maxRecDepth 100000 in
theorem xw_X10_bars : Cond.code yX10_bars cX10_bars 4 (some .int) ∈ GT := gt_in 1396 rfl (by decide +kernel)
theorem ok_X10_bars : MOK mX10_bars 0 := ⟨xw_X10_bars, iw_NineSaints, by decide +kernel, by decide +kernel, by decide⟩
theorem mv_X10_bars : MV mX10_bars 0 10 := ⟨ok_X10_bars, gt_in 1394 (by decide +kernel) (by decide +kernel), gt_in 1395 (by decide +kernel) (by decide +kernel), _, rfl, rfl⟩
set_option maxRecDepth 100000 in
theorem xw_X10_but : Cond.code yX10_but cX10_but 2 (some .boolean) ∈ GT := gt_in 1234 rfl (by decide +kernel)
theorem ok_X10_but : MOK mX10_but 1 := ⟨xw_X10_but, iw_NineSaints, by decide +kernel, by decide +kernel, by decide⟩
theorem mv_X10_but : MV mX10_but 1 10 := ⟨ok_X10_but, gt_in 1232 (by decide +kernel) (by decide +kernel), gt_in 1233 (by decide +kernel) (by decide +kernel), _, rfl, rfl⟩
set_option maxRecDepth 100000 in
theorem xw_X10_city : Cond.code yX10_city cX10_city 3 (some .int) ∈ GT := gt_in 796 rfl (by decide +kernel)
theorem ok_X10_city : MOK mX10_city 0 := ⟨xw_X10_city, iw_NineSaints, by decide +kernel, by decide +kernel, by decide⟩
theorem mv_X10_city : MV mX10_city 0 10 := ⟨ok_X10_city, gt_in 794 (by decide +kernel) (by decide +kernel), gt_in 795 (by decide +kernel) (by decide +kernel), _, rfl, rfl⟩
set_option maxRecDepth 100000 in
theorem xw_X10_clash : Cond.code yX10_clash cX10_clash 2 (some .int) ∈ GT := gt_in 1127 rfl (by decide +kernel)
theorem ok_X10_clash : MOK mX10_clash 1 := ⟨xw_X10_clash, iw_NineSaints, by decide +kernel, by decide +kernel, by decide⟩
theorem mv_X10_clash : MV mX10_clash 1 10 := ⟨ok_X10_clash, gt_in 1125 (by decide +kernel) (by decide +kernel), gt_in 1126 (by decide +kernel) (by decide +kernel), _, rfl, rfl⟩
set_option maxRecDepth 100000 in
theorem xw_X10_clashes : Cond.code yX10_clashes cX10_clashes 2 (some .int) ∈ GT := gt_in 1200 rfl (by decide +kernel)
theorem ok_X10_clashes : MOK mX10_clashes 1 := ⟨xw_X10_clashes, iw_NineSaints, by decide +kernel, by decide +kernel, by decide⟩
theorem mv_X10_clashes : MV mX10_clashes 1 10 := ⟨ok_X10_clashes, gt_in 1198 (by decide +kernel) (by decide +kernel), gt_in 1199 (by decide +kernel) (by decide +kernel), _, rfl, rfl⟩
set_option maxRecDepth 100000 in
theorem xw_X10_clear : Cond.code yX10_clear cX10_clear 2 (some .boolean) ∈ GT := gt_in 1071 rfl (by decide +kernel)
theorem ok_X10_clear : MOK mX10_clear 1 := ⟨xw_X10_clear, iw_NineSaints, by decide +kernel, by decide +kernel, by decide⟩
theorem mv_X10_clear : MV mX10_clear 1 10 := ⟨ok_X10_clear, gt_in 1069 (by decide +kernel) (by decide +kernel), gt_in 1070 (by decide +kernel) (by decide +kernel), _, rfl, rfl⟩
set_option maxRecDepth 100000 in
theorem xw_X10_dawn : Cond.code yX10_dawn cX10_dawn 4 (some .int) ∈ GT := gt_in 1452 rfl (by decide +kernel)
theorem ok_X10_dawn : MOK mX10_dawn 3 := ⟨xw_X10_dawn, iw_NineSaints, by decide +kernel, by decide +kernel, by decide⟩
theorem mv_X10_dawn : MV mX10_dawn 3 10 := ⟨ok_X10_dawn, gt_in 1450 (by decide +kernel) (by decide +kernel), gt_in 1451 (by decide +kernel) (by decide +kernel), _, rfl, rfl⟩
set_option maxRecDepth 100000 in
theorem xw_X10_end : Cond.code yX10_end cX10_end 2 (some .boolean) ∈ GT := gt_in 792 rfl (by decide +kernel)
theorem ok_X10_end : MOK mX10_end 1 := ⟨xw_X10_end, iw_NineSaints, by decide +kernel, by decide +kernel, by decide⟩
theorem mv_X10_end : MV mX10_end 1 10 := ⟨ok_X10_end, gt_in 790 (by decide +kernel) (by decide +kernel), gt_in 791 (by decide +kernel) (by decide +kernel), _, rfl, rfl⟩
set_option maxRecDepth 100000 in
theorem xw_X10_fault : Cond.code yX10_fault cX10_fault 2 (some .int) ∈ GT := gt_in 987 rfl (by decide +kernel)
theorem ok_X10_fault : MOK mX10_fault 1 := ⟨xw_X10_fault, iw_NineSaints, by decide +kernel, by decide +kernel, by decide⟩
theorem mv_X10_fault : MV mX10_fault 1 10 := ⟨ok_X10_fault, gt_in 985 (by decide +kernel) (by decide +kernel), gt_in 986 (by decide +kernel) (by decide +kernel), _, rfl, rfl⟩
set_option maxRecDepth 100000 in
theorem xw_X10_feed : Cond.code yX10_feed cX10_feed 6 (some .int) ∈ GT := gt_in 784 rfl (by decide +kernel)
theorem ok_X10_feed : MOK mX10_feed 5 := ⟨xw_X10_feed, iw_NineSaints, by decide +kernel, by decide +kernel, by decide⟩
theorem mv_X10_feed : MV mX10_feed 5 10 := ⟨ok_X10_feed, gt_in 782 (by decide +kernel) (by decide +kernel), gt_in 783 (by decide +kernel) (by decide +kernel), _, rfl, rfl⟩
set_option maxRecDepth 100000 in
theorem xw_X10_go : Cond.code yX10_go cX10_go 3 (some .int) ∈ GT := gt_in 1042 rfl (by decide +kernel)
theorem ok_X10_go : MOK mX10_go 2 := ⟨xw_X10_go, iw_NineSaints, by decide +kernel, by decide +kernel, by decide⟩
theorem mv_X10_go : MV mX10_go 2 10 := ⟨ok_X10_go, gt_in 1040 (by decide +kernel) (by decide +kernel), gt_in 1041 (by decide +kernel) (by decide +kernel), _, rfl, rfl⟩
set_option maxRecDepth 100000 in
theorem xw_X10_has : Cond.code yX10_has cX10_has 2 (some .int) ∈ GT := gt_in 991 rfl (by decide +kernel)
theorem ok_X10_has : MOK mX10_has 1 := ⟨xw_X10_has, iw_NineSaints, by decide +kernel, by decide +kernel, by decide⟩
theorem mv_X10_has : MV mX10_has 1 10 := ⟨ok_X10_has, gt_in 989 (by decide +kernel) (by decide +kernel), gt_in 990 (by decide +kernel) (by decide +kernel), _, rfl, rfl⟩
set_option maxRecDepth 100000 in
theorem xw_X10_image : Cond.code yX10_image cX10_image 1 (some .int) ∈ GT := gt_in 1473 rfl (by decide +kernel)
theorem ok_X10_image : MOK mX10_image 0 := ⟨xw_X10_image, iw_NineSaints, by decide +kernel, by decide +kernel, by decide⟩
theorem mv_X10_image : MV mX10_image 0 10 := ⟨ok_X10_image, gt_in 1471 (by decide +kernel) (by decide +kernel), gt_in 1472 (by decide +kernel) (by decide +kernel), _, rfl, rfl⟩
set_option maxRecDepth 100000 in
theorem xw_X10_init : Cond.code yX10_init cX10_init 1 none ∈ GT := gt_in 197 rfl (by decide +kernel)
theorem ok_X10_init : MOK mX10_init 0 := ⟨xw_X10_init, iw_NineSaints, by decide +kernel, by decide +kernel, by decide⟩
theorem mi_X10_init : MI mX10_init 0 := ⟨ok_X10_init, gt_in 196 (by decide +kernel) (by decide +kernel), rfl, rfl⟩
set_option maxRecDepth 100000 in
theorem xw_X10_isCorner : Cond.code yX10_isCorner cX10_isCorner 2 (some .boolean) ∈ GT := gt_in 1025 rfl (by decide +kernel)
theorem ok_X10_isCorner : MOK mX10_isCorner 1 := ⟨xw_X10_isCorner, iw_NineSaints, by decide +kernel, by decide +kernel, by decide⟩
theorem mv_X10_isCorner : MV mX10_isCorner 1 10 := ⟨ok_X10_isCorner, gt_in 1024 (by decide +kernel) (by decide +kernel), gt_in 31 (by decide +kernel) (by decide +kernel), _, rfl, rfl⟩
set_option maxRecDepth 100000 in
theorem xw_X10_isLane : Cond.code yX10_isLane cX10_isLane 2 (some .boolean) ∈ GT := gt_in 1017 rfl (by decide +kernel)
theorem ok_X10_isLane : MOK mX10_isLane 1 := ⟨xw_X10_isLane, iw_NineSaints, by decide +kernel, by decide +kernel, by decide⟩
theorem mv_X10_isLane : MV mX10_isLane 1 10 := ⟨ok_X10_isLane, gt_in 1016 (by decide +kernel) (by decide +kernel), gt_in 30 (by decide +kernel) (by decide +kernel), _, rfl, rfl⟩
set_option maxRecDepth 100000 in
theorem xw_X10_isMinute : Cond.code yX10_isMinute cX10_isMinute 2 (some .boolean) ∈ GT := gt_in 1091 rfl (by decide +kernel)
theorem ok_X10_isMinute : MOK mX10_isMinute 1 := ⟨xw_X10_isMinute, iw_NineSaints, by decide +kernel, by decide +kernel, by decide⟩
theorem mv_X10_isMinute : MV mX10_isMinute 1 10 := ⟨ok_X10_isMinute, gt_in 1090 (by decide +kernel) (by decide +kernel), gt_in 34 (by decide +kernel) (by decide +kernel), _, rfl, rfl⟩
set_option maxRecDepth 100000 in
theorem xw_X10_isSaint : Cond.code yX10_isSaint cX10_isSaint 2 (some .boolean) ∈ GT := gt_in 1033 rfl (by decide +kernel)
theorem ok_X10_isSaint : MOK mX10_isSaint 1 := ⟨xw_X10_isSaint, iw_NineSaints, by decide +kernel, by decide +kernel, by decide⟩
theorem mv_X10_isSaint : MV mX10_isSaint 1 10 := ⟨ok_X10_isSaint, gt_in 1032 (by decide +kernel) (by decide +kernel), gt_in 32 (by decide +kernel) (by decide +kernel), _, rfl, rfl⟩
set_option maxRecDepth 100000 in
theorem xw_X10_lane : Cond.code yX10_lane cX10_lane 3 (some .int) ∈ GT := gt_in 1013 rfl (by decide +kernel)
theorem ok_X10_lane : MOK mX10_lane 2 := ⟨xw_X10_lane, iw_NineSaints, by decide +kernel, by decide +kernel, by decide⟩
theorem mv_X10_lane : MV mX10_lane 2 10 := ⟨ok_X10_lane, gt_in 1011 (by decide +kernel) (by decide +kernel), gt_in 1012 (by decide +kernel) (by decide +kernel), _, rfl, rfl⟩
set_option maxRecDepth 100000 in
theorem xw_X10_letter : Cond.code yX10_letter cX10_letter 4 (some .int) ∈ GT := gt_in 1009 rfl (by decide +kernel)
theorem ok_X10_letter : MOK mX10_letter 3 := ⟨xw_X10_letter, iw_NineSaints, by decide +kernel, by decide +kernel, by decide⟩
theorem mv_X10_letter : MV mX10_letter 3 10 := ⟨ok_X10_letter, gt_in 1007 (by decide +kernel) (by decide +kernel), gt_in 1008 (by decide +kernel) (by decide +kernel), _, rfl, rfl⟩
set_option maxRecDepth 100000 in
theorem xw_X10_lots : Cond.code yX10_lots cX10_lots 4 (some .int) ∈ GT := gt_in 1436 rfl (by decide +kernel)
theorem ok_X10_lots : MOK mX10_lots 1 := ⟨xw_X10_lots, iw_NineSaints, by decide +kernel, by decide +kernel, by decide⟩
theorem mv_X10_lots : MV mX10_lots 1 10 := ⟨ok_X10_lots, gt_in 1434 (by decide +kernel) (by decide +kernel), gt_in 1435 (by decide +kernel) (by decide +kernel), _, rfl, rfl⟩
set_option maxRecDepth 100000 in
theorem xw_X10_meet : Cond.code yX10_meet cX10_meet 3 (some .int) ∈ GT := gt_in 1212 rfl (by decide +kernel)
theorem ok_X10_meet : MOK mX10_meet 2 := ⟨xw_X10_meet, iw_NineSaints, by decide +kernel, by decide +kernel, by decide⟩
theorem mv_X10_meet : MV mX10_meet 2 10 := ⟨ok_X10_meet, gt_in 1210 (by decide +kernel) (by decide +kernel), gt_in 1211 (by decide +kernel) (by decide +kernel), _, rfl, rfl⟩
set_option maxRecDepth 100000 in
theorem xw_X10_mend : Cond.code yX10_mend cX10_mend 2 (some .int) ∈ GT := gt_in 1420 rfl (by decide +kernel)
theorem ok_X10_mend : MOK mX10_mend 0 := ⟨xw_X10_mend, iw_NineSaints, by decide +kernel, by decide +kernel, by decide⟩
theorem mv_X10_mend : MV mX10_mend 0 10 := ⟨ok_X10_mend, gt_in 1418 (by decide +kernel) (by decide +kernel), gt_in 1419 (by decide +kernel) (by decide +kernel), _, rfl, rfl⟩
set_option maxRecDepth 100000 in
theorem xw_X10_octet : Cond.code yX10_octet cX10_octet 2 (some .int) ∈ GT := gt_in 1485 rfl (by decide +kernel)
theorem ok_X10_octet : MOK mX10_octet 1 := ⟨xw_X10_octet, iw_NineSaints, by decide +kernel, by decide +kernel, by decide⟩
theorem mv_X10_octet : MV mX10_octet 1 10 := ⟨ok_X10_octet, gt_in 1483 (by decide +kernel) (by decide +kernel), gt_in 1484 (by decide +kernel) (by decide +kernel), _, rfl, rfl⟩
set_option maxRecDepth 100000 in
theorem xw_X10_on : Cond.code yX10_on cX10_on 3 (some .int) ∈ GT := gt_in 1099 rfl (by decide +kernel)
theorem ok_X10_on : MOK mX10_on 2 := ⟨xw_X10_on, iw_NineSaints, by decide +kernel, by decide +kernel, by decide⟩
theorem mv_X10_on : MV mX10_on 2 10 := ⟨ok_X10_on, gt_in 1097 (by decide +kernel) (by decide +kernel), gt_in 1098 (by decide +kernel) (by decide +kernel), _, rfl, rfl⟩
set_option maxRecDepth 100000 in
theorem xw_X10_pairOf : Cond.code yX10_pairOf cX10_pairOf 2 (some .int) ∈ GT := gt_in 1178 rfl (by decide +kernel)
theorem ok_X10_pairOf : MOK mX10_pairOf 2 := ⟨xw_X10_pairOf, iw_NineSaints, by decide +kernel, by decide +kernel, by decide⟩
theorem ms_X10_pairOf : MS mX10_pairOf 2 := ⟨ok_X10_pairOf, gt_in 1177 (by decide +kernel) (by decide +kernel)⟩
set_option maxRecDepth 100000 in
theorem xw_X10_passes : Cond.code yX10_passes cX10_passes 3 (some .int) ∈ GT := gt_in 1119 rfl (by decide +kernel)
theorem ok_X10_passes : MOK mX10_passes 2 := ⟨xw_X10_passes, iw_NineSaints, by decide +kernel, by decide +kernel, by decide⟩
theorem mv_X10_passes : MV mX10_passes 2 10 := ⟨ok_X10_passes, gt_in 1117 (by decide +kernel) (by decide +kernel), gt_in 1118 (by decide +kernel) (by decide +kernel), _, rfl, rfl⟩
set_option maxRecDepth 100000 in
theorem xw_X10_petals : Cond.code yX10_petals cX10_petals 5 (some .int) ∈ GT := gt_in 1107 rfl (by decide +kernel)
theorem ok_X10_petals : MOK mX10_petals 2 := ⟨xw_X10_petals, iw_NineSaints, by decide +kernel, by decide +kernel, by decide⟩
theorem mv_X10_petals : MV mX10_petals 2 10 := ⟨ok_X10_petals, gt_in 1105 (by decide +kernel) (by decide +kernel), gt_in 1106 (by decide +kernel) (by decide +kernel), _, rfl, rfl⟩
set_option maxRecDepth 100000 in
theorem xw_X10_pleased : Cond.code yX10_pleased cX10_pleased 1 (some .int) ∈ GT := gt_in 1222 rfl (by decide +kernel)
theorem ok_X10_pleased : MOK mX10_pleased 0 := ⟨xw_X10_pleased, iw_NineSaints, by decide +kernel, by decide +kernel, by decide⟩
theorem mv_X10_pleased : MV mX10_pleased 0 10 := ⟨ok_X10_pleased, gt_in 1220 (by decide +kernel) (by decide +kernel), gt_in 1221 (by decide +kernel) (by decide +kernel), _, rfl, rfl⟩
set_option maxRecDepth 100000 in
theorem xw_X10_rest : Cond.code yX10_rest cX10_rest 3 (some .int) ∈ GT := gt_in 1063 rfl (by decide +kernel)
theorem ok_X10_rest : MOK mX10_rest 2 := ⟨xw_X10_rest, iw_NineSaints, by decide +kernel, by decide +kernel, by decide⟩
theorem mv_X10_rest : MV mX10_rest 2 10 := ⟨ok_X10_rest, gt_in 1061 (by decide +kernel) (by decide +kernel), gt_in 1062 (by decide +kernel) (by decide +kernel), _, rfl, rfl⟩
set_option maxRecDepth 100000 in
theorem xw_X10_route : Cond.code yX10_route cX10_route 5 (some .int) ∈ GT := gt_in 1331 rfl (by decide +kernel)
theorem ok_X10_route : MOK mX10_route 3 := ⟨xw_X10_route, iw_NineSaints, by decide +kernel, by decide +kernel, by decide⟩
theorem mv_X10_route : MV mX10_route 3 10 := ⟨ok_X10_route, gt_in 1329 (by decide +kernel) (by decide +kernel), gt_in 1330 (by decide +kernel) (by decide +kernel), _, rfl, rfl⟩
set_option maxRecDepth 100000 in
theorem xw_X10_routes : Cond.code yX10_routes cX10_routes 2 (some .int) ∈ GT := gt_in 1287 rfl (by decide +kernel)
theorem ok_X10_routes : MOK mX10_routes 1 := ⟨xw_X10_routes, iw_NineSaints, by decide +kernel, by decide +kernel, by decide⟩
theorem mv_X10_routes : MV mX10_routes 1 10 := ⟨ok_X10_routes, gt_in 1285 (by decide +kernel) (by decide +kernel), gt_in 1286 (by decide +kernel) (by decide +kernel), _, rfl, rfl⟩
set_option maxRecDepth 100000 in
theorem xw_X10_saint : Cond.code yX10_saint cX10_saint 3 (some .int) ∈ GT := gt_in 1029 rfl (by decide +kernel)
theorem ok_X10_saint : MOK mX10_saint 2 := ⟨xw_X10_saint, iw_NineSaints, by decide +kernel, by decide +kernel, by decide⟩
theorem mv_X10_saint : MV mX10_saint 2 10 := ⟨ok_X10_saint, gt_in 1027 (by decide +kernel) (by decide +kernel), gt_in 1028 (by decide +kernel) (by decide +kernel), _, rfl, rfl⟩
set_option maxRecDepth 100000 in
theorem xw_X10_shut : Cond.code yX10_shut cX10_shut 3 (some .boolean) ∈ GT := gt_in 1271 rfl (by decide +kernel)
theorem ok_X10_shut : MOK mX10_shut 2 := ⟨xw_X10_shut, iw_NineSaints, by decide +kernel, by decide +kernel, by decide⟩
theorem mv_X10_shut : MV mX10_shut 2 10 := ⟨ok_X10_shut, gt_in 1269 (by decide +kernel) (by decide +kernel), gt_in 1270 (by decide +kernel) (by decide +kernel), _, rfl, rfl⟩
set_option maxRecDepth 100000 in
theorem xw_X10_softer : Cond.code yX10_softer cX10_softer 3 (some .int) ∈ GT := gt_in 1246 rfl (by decide +kernel)
theorem ok_X10_softer : MOK mX10_softer 1 := ⟨xw_X10_softer, iw_NineSaints, by decide +kernel, by decide +kernel, by decide⟩
theorem mv_X10_softer : MV mX10_softer 1 10 := ⟨ok_X10_softer, gt_in 1244 (by decide +kernel) (by decide +kernel), gt_in 1245 (by decide +kernel) (by decide +kernel), _, rfl, rfl⟩
set_option maxRecDepth 100000 in
theorem xw_X10_sound : Cond.code yX10_sound cX10_sound 3 (some .int) ∈ GT := gt_in 1021 rfl (by decide +kernel)
theorem ok_X10_sound : MOK mX10_sound 2 := ⟨xw_X10_sound, iw_NineSaints, by decide +kernel, by decide +kernel, by decide⟩
theorem mv_X10_sound : MV mX10_sound 2 10 := ⟨ok_X10_sound, gt_in 1019 (by decide +kernel) (by decide +kernel), gt_in 1020 (by decide +kernel) (by decide +kernel), _, rfl, rfl⟩
set_option maxRecDepth 100000 in
theorem xw_X10_sweep : Cond.code yX10_sweep cX10_sweep 5 (some .int) ∈ GT := gt_in 1279 rfl (by decide +kernel)
theorem ok_X10_sweep : MOK mX10_sweep 1 := ⟨xw_X10_sweep, iw_NineSaints, by decide +kernel, by decide +kernel, by decide⟩
theorem mv_X10_sweep : MV mX10_sweep 1 10 := ⟨ok_X10_sweep, gt_in 1277 (by decide +kernel) (by decide +kernel), gt_in 1278 (by decide +kernel) (by decide +kernel), _, rfl, rfl⟩
set_option maxRecDepth 100000 in
theorem xw_X10_take : Cond.code yX10_take cX10_take 2 (some .int) ∈ GT := gt_in 1400 rfl (by decide +kernel)
theorem ok_X10_take : MOK mX10_take 0 := ⟨xw_X10_take, iw_NineSaints, by decide +kernel, by decide +kernel, by decide⟩
theorem mv_X10_take : MV mX10_take 0 10 := ⟨ok_X10_take, gt_in 1398 (by decide +kernel) (by decide +kernel), gt_in 1399 (by decide +kernel) (by decide +kernel), _, rfl, rfl⟩
set_option maxRecDepth 100000 in
theorem xw_X10_tapeNumber : Cond.code yX10_tapeNumber cX10_tapeNumber 3 none ∈ GT := gt_in 788 rfl (by decide +kernel)
theorem ok_X10_tapeNumber : MOK mX10_tapeNumber 1 := ⟨xw_X10_tapeNumber, iw_NineSaints, by decide +kernel, by decide +kernel, by decide⟩
theorem mv_X10_tapeNumber : MV mX10_tapeNumber 1 10 := ⟨ok_X10_tapeNumber, gt_in 787 (by decide +kernel) (by decide +kernel), gt_in 3 (by decide +kernel) (by decide +kernel), _, rfl, rfl⟩
set_option maxRecDepth 100000 in
theorem xw_X10_together : Cond.code yX10_together cX10_together 3 (some .int) ∈ GT := gt_in 1335 rfl (by decide +kernel)
theorem ok_X10_together : MOK mX10_together 1 := ⟨xw_X10_together, iw_NineSaints, by decide +kernel, by decide +kernel, by decide⟩
theorem mv_X10_together : MV mX10_together 1 10 := ⟨ok_X10_together, gt_in 1333 (by decide +kernel) (by decide +kernel), gt_in 1334 (by decide +kernel) (by decide +kernel), _, rfl, rfl⟩
set_option maxRecDepth 100000 in
theorem xw_X10_turn : Cond.code yX10_turn cX10_turn 3 (some .int) ∈ GT := gt_in 1424 rfl (by decide +kernel)
theorem ok_X10_turn : MOK mX10_turn 0 := ⟨xw_X10_turn, iw_NineSaints, by decide +kernel, by decide +kernel, by decide⟩
theorem mv_X10_turn : MV mX10_turn 0 10 := ⟨ok_X10_turn, gt_in 1422 (by decide +kernel) (by decide +kernel), gt_in 1423 (by decide +kernel) (by decide +kernel), _, rfl, rfl⟩
set_option maxRecDepth 100000 in
theorem xw_X10_undo : Cond.code yX10_undo cX10_undo 1 (some .boolean) ∈ GT := gt_in 1079 rfl (by decide +kernel)
theorem ok_X10_undo : MOK mX10_undo 0 := ⟨xw_X10_undo, iw_NineSaints, by decide +kernel, by decide +kernel, by decide⟩
theorem mv_X10_undo : MV mX10_undo 0 10 := ⟨ok_X10_undo, gt_in 1077 (by decide +kernel) (by decide +kernel), gt_in 1078 (by decide +kernel) (by decide +kernel), _, rfl, rfl⟩
set_option maxRecDepth 100000 in
theorem xw_X10_where : Cond.code yX10_where cX10_where 3 (some .int) ∈ GT := gt_in 1087 rfl (by decide +kernel)
theorem ok_X10_where : MOK mX10_where 2 := ⟨xw_X10_where, iw_NineSaints, by decide +kernel, by decide +kernel, by decide⟩
theorem mv_X10_where : MV mX10_where 2 10 := ⟨ok_X10_where, gt_in 1085 (by decide +kernel) (by decide +kernel), gt_in 1086 (by decide +kernel) (by decide +kernel), _, rfl, rfl⟩
set_option maxRecDepth 100000 in
theorem xw_X10_words : Cond.code yX10_words cX10_words 2 (some .int) ∈ GT := gt_in 1242 rfl (by decide +kernel)
theorem ok_X10_words : MOK mX10_words 1 := ⟨xw_X10_words, iw_NineSaints, by decide +kernel, by decide +kernel, by decide⟩
theorem mv_X10_words : MV mX10_words 1 10 := ⟨ok_X10_words, gt_in 1240 (by decide +kernel) (by decide +kernel), gt_in 1241 (by decide +kernel) (by decide +kernel), _, rfl, rfl⟩
set_option maxRecDepth 100000 in
theorem xw_X11_areKnown : Cond.code yX11_areKnown cX11_areKnown 4 (some .boolean) ∈ GT := gt_in 2324 rfl (by decide +kernel)
theorem ok_X11_areKnown : MOK mX11_areKnown 2 := ⟨xw_X11_areKnown, iw_NineSaintsModel, by decide +kernel, by decide +kernel, by decide⟩
theorem mv_X11_areKnown : MV mX11_areKnown 2 11 := ⟨ok_X11_areKnown, gt_in 2323 (by decide +kernel) (by decide +kernel), gt_in 158 (by decide +kernel) (by decide +kernel), _, rfl, rfl⟩
set_option maxRecDepth 100000 in
theorem xw_X11_areLawful : Cond.code yX11_areLawful cX11_areLawful 3 (some .boolean) ∈ GT := gt_in 2212 rfl (by decide +kernel)
theorem ok_X11_areLawful : MOK mX11_areLawful 2 := ⟨xw_X11_areLawful, iw_NineSaintsModel, by decide +kernel, by decide +kernel, by decide⟩
theorem mv_X11_areLawful : MV mX11_areLawful 2 11 := ⟨ok_X11_areLawful, gt_in 2211 (by decide +kernel) (by decide +kernel), gt_in 138 (by decide +kernel) (by decide +kernel), _, rfl, rfl⟩
set_option maxRecDepth 100000 in
theorem xw_X11_arePetals : Cond.code yX11_arePetals cX11_arePetals 5 (some .boolean) ∈ GT := gt_in 2112 rfl (by decide +kernel)
theorem ok_X11_arePetals : MOK mX11_arePetals 3 := ⟨xw_X11_arePetals, iw_NineSaintsModel, by decide +kernel, by decide +kernel, by decide⟩
theorem mv_X11_arePetals : MV mX11_arePetals 3 11 := ⟨ok_X11_arePetals, gt_in 2111 (by decide +kernel) (by decide +kernel), gt_in 124 (by decide +kernel) (by decide +kernel), _, rfl, rfl⟩
set_option maxRecDepth 100000 in
theorem xw_X11_arePetalsIn : Cond.code yX11_arePetalsIn cX11_arePetalsIn 4 (some .boolean) ∈ GT := gt_in 2142 rfl (by decide +kernel)
theorem ok_X11_arePetalsIn : MOK mX11_arePetalsIn 3 := ⟨xw_X11_arePetalsIn, iw_NineSaintsModel, by decide +kernel, by decide +kernel, by decide⟩
theorem mv_X11_arePetalsIn : MV mX11_arePetalsIn 3 11 := ⟨ok_X11_arePetalsIn, gt_in 2141 (by decide +kernel) (by decide +kernel), gt_in 129 (by decide +kernel) (by decide +kernel), _, rfl, rfl⟩
set_option maxRecDepth 100000 in
theorem xw_X11_areQuiet : Cond.code yX11_areQuiet cX11_areQuiet 11 (some .boolean) ∈ GT := gt_in 2216 rfl (by decide +kernel)
theorem ok_X11_areQuiet : MOK mX11_areQuiet 2 := ⟨xw_X11_areQuiet, iw_NineSaintsModel, by decide +kernel, by decide +kernel, by decide⟩
theorem mv_X11_areQuiet : MV mX11_areQuiet 2 11 := ⟨ok_X11_areQuiet, gt_in 2215 (by decide +kernel) (by decide +kernel), gt_in 139 (by decide +kernel) (by decide +kernel), _, rfl, rfl⟩
set_option maxRecDepth 100000 in
theorem xw_X11_asks : Cond.code yX11_asks cX11_asks 2 none ∈ GT := gt_in 1844 rfl (by decide +kernel)
theorem ok_X11_asks : MOK mX11_asks 1 := ⟨xw_X11_asks, iw_NineSaintsModel, by decide +kernel, by decide +kernel, by decide⟩
theorem mv_X11_asks : MV mX11_asks 1 11 := ⟨ok_X11_asks, gt_in 1843 (by decide +kernel) (by decide +kernel), gt_in 74 (by decide +kernel) (by decide +kernel), _, rfl, rfl⟩
set_option maxRecDepth 100000 in
theorem xw_X11_asksSign : Cond.code yX11_asksSign cX11_asksSign 2 none ∈ GT := gt_in 1902 rfl (by decide +kernel)
theorem ok_X11_asksSign : MOK mX11_asksSign 1 := ⟨xw_X11_asksSign, iw_NineSaintsModel, by decide +kernel, by decide +kernel, by decide⟩
theorem mv_X11_asksSign : MV mX11_asksSign 1 11 := ⟨ok_X11_asksSign, gt_in 1901 (by decide +kernel) (by decide +kernel), gt_in 87 (by decide +kernel) (by decide +kernel), _, rfl, rfl⟩
set_option maxRecDepth 100000 in
theorem xw_X11_back : Cond.code yX11_back cX11_back 3 (some .boolean) ∈ GT := gt_in 2400 rfl (by decide +kernel)
theorem ok_X11_back : MOK mX11_back 0 := ⟨xw_X11_back, iw_NineSaintsModel, by decide +kernel, by decide +kernel, by decide⟩
theorem mv_X11_back : MV mX11_back 0 11 := ⟨ok_X11_back, gt_in 2398 (by decide +kernel) (by decide +kernel), gt_in 2399 (by decide +kernel) (by decide +kernel), _, rfl, rfl⟩
set_option maxRecDepth 100000 in
theorem xw_X11_bars : Cond.code yX11_bars cX11_bars 4 (some .int) ∈ GT := gt_in 2332 rfl (by decide +kernel)
theorem ok_X11_bars : MOK mX11_bars 0 := ⟨xw_X11_bars, iw_NineSaintsModel, by decide +kernel, by decide +kernel, by decide⟩
theorem mv_X11_bars : MV mX11_bars 0 11 := ⟨ok_X11_bars, gt_in 2330 (by decide +kernel) (by decide +kernel), gt_in 2331 (by decide +kernel) (by decide +kernel), _, rfl, rfl⟩
set_option maxRecDepth 100000 in
theorem xw_X11_bitAt : Cond.code yX11_bitAt cX11_bitAt 4 (some .int) ∈ GT := gt_in 2249 rfl (by decide +kernel)
theorem ok_X11_bitAt : MOK mX11_bitAt 2 := ⟨xw_X11_bitAt, iw_NineSaintsModel, by decide +kernel, by decide +kernel, by decide⟩
theorem ms_X11_bitAt : MS mX11_bitAt 2 := ⟨ok_X11_bitAt, gt_in 2248 (by decide +kernel) (by decide +kernel)⟩
set_option maxRecDepth 100000 in
theorem xw_X11_bits : Cond.code yX11_bits cX11_bits 3 (some .int) ∈ GT := gt_in 1985 rfl (by decide +kernel)
theorem ok_X11_bits : MOK mX11_bits 1 := ⟨xw_X11_bits, iw_NineSaintsModel, by decide +kernel, by decide +kernel, by decide⟩
theorem ms_X11_bits : MS mX11_bits 1 := ⟨ok_X11_bits, gt_in 1984 (by decide +kernel) (by decide +kernel)⟩
set_option maxRecDepth 100000 in
theorem xw_X11_but : Cond.code yX11_but cX11_but 2 (some .boolean) ∈ GT := gt_in 2192 rfl (by decide +kernel)
theorem ok_X11_but : MOK mX11_but 1 := ⟨xw_X11_but, iw_NineSaintsModel, by decide +kernel, by decide +kernel, by decide⟩
theorem mv_X11_but : MV mX11_but 1 11 := ⟨ok_X11_but, gt_in 2190 (by decide +kernel) (by decide +kernel), gt_in 2191 (by decide +kernel) (by decide +kernel), _, rfl, rfl⟩
set_option maxRecDepth 100000 in
theorem xw_X11_canBeBetter : Cond.code yX11_canBeBetter cX11_canBeBetter 5 (some .boolean) ∈ GT := gt_in 2328 rfl (by decide +kernel)
theorem ok_X11_canBeBetter : MOK mX11_canBeBetter 3 := ⟨xw_X11_canBeBetter, iw_NineSaintsModel, by decide +kernel, by decide +kernel, by decide⟩
theorem mv_X11_canBeBetter : MV mX11_canBeBetter 3 11 := ⟨ok_X11_canBeBetter, gt_in 2327 (by decide +kernel) (by decide +kernel), gt_in 159 (by decide +kernel) (by decide +kernel), _, rfl, rfl⟩
set_option maxRecDepth 100000 in
theorem xw_X11_canCome : Cond.code yX11_canCome cX11_canCome 5 (some .boolean) ∈ GT := gt_in 2265 rfl (by decide +kernel)
theorem ok_X11_canCome : MOK mX11_canCome 3 := ⟨xw_X11_canCome, iw_NineSaintsModel, by decide +kernel, by decide +kernel, by decide⟩
theorem mv_X11_canCome : MV mX11_canCome 3 11 := ⟨ok_X11_canCome, gt_in 2264 (by decide +kernel) (by decide +kernel), gt_in 146 (by decide +kernel) (by decide +kernel), _, rfl, rfl⟩
set_option maxRecDepth 100000 in
theorem xw_X11_canGo : Cond.code yX11_canGo cX11_canGo 3 (some .boolean) ∈ GT := gt_in 2058 rfl (by decide +kernel)
theorem ok_X11_canGo : MOK mX11_canGo 2 := ⟨xw_X11_canGo, iw_NineSaintsModel, by decide +kernel, by decide +kernel, by decide⟩
theorem mv_X11_canGo : MV mX11_canGo 2 11 := ⟨ok_X11_canGo, gt_in 2057 (by decide +kernel) (by decide +kernel), gt_in 116 (by decide +kernel) (by decide +kernel), _, rfl, rfl⟩
set_option maxRecDepth 100000 in
theorem xw_X11_changesTo : Cond.code yX11_changesTo cX11_changesTo 5 (some .int) ∈ GT := gt_in 2304 rfl (by decide +kernel)
theorem ok_X11_changesTo : MOK mX11_changesTo 2 := ⟨xw_X11_changesTo, iw_NineSaintsModel, by decide +kernel, by decide +kernel, by decide⟩
theorem mv_X11_changesTo : MV mX11_changesTo 2 11 := ⟨ok_X11_changesTo, gt_in 2303 (by decide +kernel) (by decide +kernel), gt_in 153 (by decide +kernel) (by decide +kernel), _, rfl, rfl⟩
set_option maxRecDepth 100000 in
theorem xw_X11_checked : Cond.code yX11_checked cX11_checked 4 (some .int) ∈ GT := gt_in 2392 rfl (by decide +kernel)
theorem ok_X11_checked : MOK mX11_checked 2 := ⟨xw_X11_checked, iw_NineSaintsModel, by decide +kernel, by decide +kernel, by decide⟩
theorem ms_X11_checked : MS mX11_checked 2 := ⟨ok_X11_checked, gt_in 2391 (by decide +kernel) (by decide +kernel)⟩
set_option maxRecDepth 100000 in
theorem xw_X11_choicesOf : Cond.code yX11_choicesOf cX11_choicesOf 2 (some .int) ∈ GT := gt_in 2381 rfl (by decide +kernel)
theorem ok_X11_choicesOf : MOK mX11_choicesOf 1 := ⟨xw_X11_choicesOf, iw_NineSaintsModel, by decide +kernel, by decide +kernel, by decide⟩
theorem mv_X11_choicesOf : MV mX11_choicesOf 1 11 := ⟨ok_X11_choicesOf, gt_in 2380 (by decide +kernel) (by decide +kernel), gt_in 166 (by decide +kernel) (by decide +kernel), _, rfl, rfl⟩
set_option maxRecDepth 100000 in
theorem xw_X11_city : Cond.code yX11_city cX11_city 2 (some .int) ∈ GT := gt_in 1791 rfl (by decide +kernel)
theorem ok_X11_city : MOK mX11_city 0 := ⟨xw_X11_city, iw_NineSaintsModel, by decide +kernel, by decide +kernel, by decide⟩
theorem mv_X11_city : MV mX11_city 0 11 := ⟨ok_X11_city, gt_in 1789 (by decide +kernel) (by decide +kernel), gt_in 1790 (by decide +kernel) (by decide +kernel), _, rfl, rfl⟩
set_option maxRecDepth 100000 in
theorem xw_X11_clash : Cond.code yX11_clash cX11_clash 7 (some .int) ∈ GT := gt_in 2129 rfl (by decide +kernel)
theorem ok_X11_clash : MOK mX11_clash 1 := ⟨xw_X11_clash, iw_NineSaintsModel, by decide +kernel, by decide +kernel, by decide⟩
theorem mv_X11_clash : MV mX11_clash 1 11 := ⟨ok_X11_clash, gt_in 2127 (by decide +kernel) (by decide +kernel), gt_in 2128 (by decide +kernel) (by decide +kernel), _, rfl, rfl⟩
set_option maxRecDepth 100000 in
theorem xw_X11_clashes : Cond.code yX11_clashes cX11_clashes 6 (some .int) ∈ GT := gt_in 2176 rfl (by decide +kernel)
theorem ok_X11_clashes : MOK mX11_clashes 1 := ⟨xw_X11_clashes, iw_NineSaintsModel, by decide +kernel, by decide +kernel, by decide⟩
theorem mv_X11_clashes : MV mX11_clashes 1 11 := ⟨ok_X11_clashes, gt_in 2174 (by decide +kernel) (by decide +kernel), gt_in 2175 (by decide +kernel) (by decide +kernel), _, rfl, rfl⟩
set_option maxRecDepth 100000 in
theorem xw_X11_clear : Cond.code yX11_clear cX11_clear 2 (some .boolean) ∈ GT := gt_in 2083 rfl (by decide +kernel)
theorem ok_X11_clear : MOK mX11_clear 1 := ⟨xw_X11_clear, iw_NineSaintsModel, by decide +kernel, by decide +kernel, by decide⟩
theorem mv_X11_clear : MV mX11_clear 1 11 := ⟨ok_X11_clear, gt_in 2081 (by decide +kernel) (by decide +kernel), gt_in 2082 (by decide +kernel) (by decide +kernel), _, rfl, rfl⟩
set_option maxRecDepth 100000 in
theorem xw_X11_clip : Cond.code yX11_clip cX11_clip 2 (some .long) ∈ GT := gt_in 2167 rfl (by decide +kernel)
theorem ok_X11_clip : MOK mX11_clip 1 := ⟨xw_X11_clip, iw_NineSaintsModel, by decide +kernel, by decide +kernel, by decide⟩
theorem ms_X11_clip : MS mX11_clip 1 := ⟨ok_X11_clip, gt_in 2166 (by decide +kernel) (by decide +kernel)⟩
set_option maxRecDepth 100000 in
theorem xw_X11_code : Cond.code yX11_code cX11_code 2 none ∈ GT := gt_in 1890 rfl (by decide +kernel)
theorem ok_X11_code : MOK mX11_code 1 := ⟨xw_X11_code, iw_NineSaintsModel, by decide +kernel, by decide +kernel, by decide⟩
theorem mv_X11_code : MV mX11_code 1 11 := ⟨ok_X11_code, gt_in 1889 (by decide +kernel) (by decide +kernel), gt_in 84 (by decide +kernel) (by decide +kernel), _, rfl, rfl⟩
set_option maxRecDepth 100000 in
theorem xw_X11_comesTo : Cond.code yX11_comesTo cX11_comesTo 4 none ∈ GT := gt_in 2340 rfl (by decide +kernel)
theorem ok_X11_comesTo : MOK mX11_comesTo 2 := ⟨xw_X11_comesTo, iw_NineSaintsModel, by decide +kernel, by decide +kernel, by decide⟩
theorem mv_X11_comesTo : MV mX11_comesTo 2 11 := ⟨ok_X11_comesTo, gt_in 2339 (by decide +kernel) (by decide +kernel), gt_in 160 (by decide +kernel) (by decide +kernel), _, rfl, rfl⟩
set_option maxRecDepth 100000 in
theorem xw_X11_cornerTold : Cond.code yX11_cornerTold cX11_cornerTold 4 (some .int) ∈ GT := gt_in 1862 rfl (by decide +kernel)
theorem ok_X11_cornerTold : MOK mX11_cornerTold 0 := ⟨xw_X11_cornerTold, iw_NineSaintsModel, by decide +kernel, by decide +kernel, by decide⟩
theorem mv_X11_cornerTold : MV mX11_cornerTold 0 11 := ⟨ok_X11_cornerTold, gt_in 1861 (by decide +kernel) (by decide +kernel), gt_in 77 (by decide +kernel) (by decide +kernel), _, rfl, rfl⟩
set_option maxRecDepth 100000 in
theorem xw_X11_corners : Cond.code yX11_corners cX11_corners 1 (some .int) ∈ GT := gt_in 1970 rfl (by decide +kernel)
theorem ok_X11_corners : MOK mX11_corners 0 := ⟨xw_X11_corners, iw_NineSaintsModel, by decide +kernel, by decide +kernel, by decide⟩
theorem mv_X11_corners : MV mX11_corners 0 11 := ⟨ok_X11_corners, gt_in 1969 (by decide +kernel) (by decide +kernel), gt_in 102 (by decide +kernel) (by decide +kernel), _, rfl, rfl⟩
set_option maxRecDepth 100000 in
theorem xw_X11_dawn : Cond.code yX11_dawn cX11_dawn 12 (some .int) ∈ GT := gt_in 2372 rfl (by decide +kernel)
theorem ok_X11_dawn : MOK mX11_dawn 3 := ⟨xw_X11_dawn, iw_NineSaintsModel, by decide +kernel, by decide +kernel, by decide⟩
theorem mv_X11_dawn : MV mX11_dawn 3 11 := ⟨ok_X11_dawn, gt_in 2370 (by decide +kernel) (by decide +kernel), gt_in 2371 (by decide +kernel) (by decide +kernel), _, rfl, rfl⟩
set_option maxRecDepth 100000 in
theorem xw_X11_dawns : Cond.code yX11_dawns cX11_dawns 7 none ∈ GT := gt_in 2377 rfl (by decide +kernel)
theorem ok_X11_dawns : MOK mX11_dawns 2 := ⟨xw_X11_dawns, iw_NineSaintsModel, by decide +kernel, by decide +kernel, by decide⟩
theorem mv_X11_dawns : MV mX11_dawns 2 11 := ⟨ok_X11_dawns, gt_in 2376 (by decide +kernel) (by decide +kernel), gt_in 165 (by decide +kernel) (by decide +kernel), _, rfl, rfl⟩
set_option maxRecDepth 100000 in
theorem xw_X11_doLie : Cond.code yX11_doLie cX11_doLie 4 (some .boolean) ∈ GT := gt_in 2116 rfl (by decide +kernel)
theorem ok_X11_doLie : MOK mX11_doLie 3 := ⟨xw_X11_doLie, iw_NineSaintsModel, by decide +kernel, by decide +kernel, by decide⟩
theorem mv_X11_doLie : MV mX11_doLie 3 11 := ⟨ok_X11_doLie, gt_in 2115 (by decide +kernel) (by decide +kernel), gt_in 125 (by decide +kernel) (by decide +kernel), _, rfl, rfl⟩
set_option maxRecDepth 100000 in
theorem xw_X11_drops : Cond.code yX11_drops cX11_drops 1 none ∈ GT := gt_in 1926 rfl (by decide +kernel)
theorem ok_X11_drops : MOK mX11_drops 0 := ⟨xw_X11_drops, iw_NineSaintsModel, by decide +kernel, by decide +kernel, by decide⟩
theorem mv_X11_drops : MV mX11_drops 0 11 := ⟨ok_X11_drops, gt_in 1925 (by decide +kernel) (by decide +kernel), gt_in 93 (by decide +kernel) (by decide +kernel), _, rfl, rfl⟩
set_option maxRecDepth 100000 in
theorem xw_X11_dropsNots : Cond.code yX11_dropsNots cX11_dropsNots 1 none ∈ GT := gt_in 1934 rfl (by decide +kernel)
theorem ok_X11_dropsNots : MOK mX11_dropsNots 0 := ⟨xw_X11_dropsNots, iw_NineSaintsModel, by decide +kernel, by decide +kernel, by decide⟩
theorem mv_X11_dropsNots : MV mX11_dropsNots 0 11 := ⟨ok_X11_dropsNots, gt_in 1933 (by decide +kernel) (by decide +kernel), gt_in 95 (by decide +kernel) (by decide +kernel), _, rfl, rfl⟩
set_option maxRecDepth 100000 in
theorem xw_X11_dropsToMark : Cond.code yX11_dropsToMark cX11_dropsToMark 1 none ∈ GT := gt_in 1922 rfl (by decide +kernel)
theorem ok_X11_dropsToMark : MOK mX11_dropsToMark 0 := ⟨xw_X11_dropsToMark, iw_NineSaintsModel, by decide +kernel, by decide +kernel, by decide⟩
theorem mv_X11_dropsToMark : MV mX11_dropsToMark 0 11 := ⟨ok_X11_dropsToMark, gt_in 1921 (by decide +kernel) (by decide +kernel), gt_in 92 (by decide +kernel) (by decide +kernel), _, rfl, rfl⟩
set_option maxRecDepth 100000 in
theorem xw_X11_drums : Cond.code yX11_drums cX11_drums 5 (some .int) ∈ GT := gt_in 2134 rfl (by decide +kernel)
theorem ok_X11_drums : MOK mX11_drums 3 := ⟨xw_X11_drums, iw_NineSaintsModel, by decide +kernel, by decide +kernel, by decide⟩
theorem mv_X11_drums : MV mX11_drums 3 11 := ⟨ok_X11_drums, gt_in 2133 (by decide +kernel) (by decide +kernel), gt_in 127 (by decide +kernel) (by decide +kernel), _, rfl, rfl⟩
set_option maxRecDepth 100000 in
theorem xw_X11_end : Cond.code yX11_end cX11_end 2 (some .boolean) ∈ GT := gt_in 1787 rfl (by decide +kernel)
theorem ok_X11_end : MOK mX11_end 1 := ⟨xw_X11_end, iw_NineSaintsModel, by decide +kernel, by decide +kernel, by decide⟩
theorem mv_X11_end : MV mX11_end 1 11 := ⟨ok_X11_end, gt_in 1785 (by decide +kernel) (by decide +kernel), gt_in 1786 (by decide +kernel) (by decide +kernel), _, rfl, rfl⟩
set_option maxRecDepth 100000 in
theorem xw_X11_endOf : Cond.code yX11_endOf cX11_endOf 2 (some .int) ∈ GT := gt_in 2019 rfl (by decide +kernel)
theorem ok_X11_endOf : MOK mX11_endOf 1 := ⟨xw_X11_endOf, iw_NineSaintsModel, by decide +kernel, by decide +kernel, by decide⟩
theorem mv_X11_endOf : MV mX11_endOf 1 11 := ⟨ok_X11_endOf, gt_in 2018 (by decide +kernel) (by decide +kernel), gt_in 109 (by decide +kernel) (by decide +kernel), _, rfl, rfl⟩
set_option maxRecDepth 100000 in
theorem xw_X11_endsAt : Cond.code yX11_endsAt cX11_endsAt 2 (some .int) ∈ GT := gt_in 2023 rfl (by decide +kernel)
theorem ok_X11_endsAt : MOK mX11_endsAt 1 := ⟨xw_X11_endsAt, iw_NineSaintsModel, by decide +kernel, by decide +kernel, by decide⟩
theorem mv_X11_endsAt : MV mX11_endsAt 1 11 := ⟨ok_X11_endsAt, gt_in 2022 (by decide +kernel) (by decide +kernel), gt_in 110 (by decide +kernel) (by decide +kernel), _, rfl, rfl⟩
set_option maxRecDepth 100000 in
theorem xw_X11_endsTo : Cond.code yX11_endsTo cX11_endsTo 5 (some .int) ∈ GT := gt_in 2296 rfl (by decide +kernel)
theorem ok_X11_endsTo : MOK mX11_endsTo 2 := ⟨xw_X11_endsTo, iw_NineSaintsModel, by decide +kernel, by decide +kernel, by decide⟩
theorem mv_X11_endsTo : MV mX11_endsTo 2 11 := ⟨ok_X11_endsTo, gt_in 2295 (by decide +kernel) (by decide +kernel), gt_in 151 (by decide +kernel) (by decide +kernel), _, rfl, rfl⟩
set_option maxRecDepth 100000 in
theorem xw_X11_everybody : Cond.code yX11_everybody cX11_everybody 1 (some .int) ∈ GT := gt_in 2288 rfl (by decide +kernel)
theorem ok_X11_everybody : MOK mX11_everybody 0 := ⟨xw_X11_everybody, iw_NineSaintsModel, by decide +kernel, by decide +kernel, by decide⟩
theorem mv_X11_everybody : MV mX11_everybody 0 11 := ⟨ok_X11_everybody, gt_in 2287 (by decide +kernel) (by decide +kernel), gt_in 149 (by decide +kernel) (by decide +kernel), _, rfl, rfl⟩
set_option maxRecDepth 100000 in
theorem xw_X11_exceptions : Cond.code yX11_exceptions cX11_exceptions 1 (some .int) ∈ GT := gt_in 1978 rfl (by decide +kernel)
theorem ok_X11_exceptions : MOK mX11_exceptions 0 := ⟨xw_X11_exceptions, iw_NineSaintsModel, by decide +kernel, by decide +kernel, by decide⟩
theorem mv_X11_exceptions : MV mX11_exceptions 0 11 := ⟨ok_X11_exceptions, gt_in 1977 (by decide +kernel) (by decide +kernel), gt_in 104 (by decide +kernel) (by decide +kernel), _, rfl, rfl⟩
set_option maxRecDepth 100000 in
theorem xw_X11_fact : Cond.code yX11_fact cX11_fact 2 none ∈ GT := gt_in 1886 rfl (by decide +kernel)
theorem ok_X11_fact : MOK mX11_fact 0 := ⟨xw_X11_fact, iw_NineSaintsModel, by decide +kernel, by decide +kernel, by decide⟩
theorem mv_X11_fact : MV mX11_fact 0 11 := ⟨ok_X11_fact, gt_in 1885 (by decide +kernel) (by decide +kernel), gt_in 83 (by decide +kernel) (by decide +kernel), _, rfl, rfl⟩
set_option maxRecDepth 100000 in
theorem xw_X11_fail : Cond.code yX11_fail cX11_fail 3 none ∈ GT := gt_in 1803 rfl (by decide +kernel)
theorem ok_X11_fail : MOK mX11_fail 2 := ⟨xw_X11_fail, iw_NineSaintsModel, by decide +kernel, by decide +kernel, by decide⟩
theorem mv_X11_fail : MV mX11_fail 2 11 := ⟨ok_X11_fail, gt_in 1802 (by decide +kernel) (by decide +kernel), gt_in 65 (by decide +kernel) (by decide +kernel), _, rfl, rfl⟩
set_option maxRecDepth 100000 in
theorem xw_X11_fault : Cond.code yX11_fault cX11_fault 2 (some .int) ∈ GT := gt_in 1962 rfl (by decide +kernel)
theorem ok_X11_fault : MOK mX11_fault 1 := ⟨xw_X11_fault, iw_NineSaintsModel, by decide +kernel, by decide +kernel, by decide⟩
theorem mv_X11_fault : MV mX11_fault 1 11 := ⟨ok_X11_fault, gt_in 1960 (by decide +kernel) (by decide +kernel), gt_in 1961 (by decide +kernel) (by decide +kernel), _, rfl, rfl⟩
set_option maxRecDepth 100000 in
theorem xw_X11_feed : Cond.code yX11_feed cX11_feed 8 (some .int) ∈ GT := gt_in 1783 rfl (by decide +kernel)
theorem ok_X11_feed : MOK mX11_feed 5 := ⟨xw_X11_feed, iw_NineSaintsModel, by decide +kernel, by decide +kernel, by decide⟩
theorem mv_X11_feed : MV mX11_feed 5 11 := ⟨ok_X11_feed, gt_in 1781 (by decide +kernel) (by decide +kernel), gt_in 1782 (by decide +kernel) (by decide +kernel), _, rfl, rfl⟩
set_option maxRecDepth 100000 in
theorem xw_X11_fits : Cond.code yX11_fits cX11_fits 5 (some .boolean) ∈ GT := gt_in 2316 rfl (by decide +kernel)
theorem ok_X11_fits : MOK mX11_fits 3 := ⟨xw_X11_fits, iw_NineSaintsModel, by decide +kernel, by decide +kernel, by decide⟩
theorem mv_X11_fits : MV mX11_fits 3 11 := ⟨ok_X11_fits, gt_in 2315 (by decide +kernel) (by decide +kernel), gt_in 156 (by decide +kernel) (by decide +kernel), _, rfl, rfl⟩
set_option maxRecDepth 100000 in
theorem xw_X11_floor : Cond.code yX11_floor cX11_floor 6 (some .long) ∈ GT := gt_in 2172 rfl (by decide +kernel)
theorem ok_X11_floor : MOK mX11_floor 2 := ⟨xw_X11_floor, iw_NineSaintsModel, by decide +kernel, by decide +kernel, by decide⟩
theorem ms_X11_floor : MS mX11_floor 2 := ⟨ok_X11_floor, gt_in 2171 (by decide +kernel) (by decide +kernel)⟩
set_option maxRecDepth 100000 in
theorem xw_X11_fromOf : Cond.code yX11_fromOf cX11_fromOf 3 (some .int) ∈ GT := gt_in 2220 rfl (by decide +kernel)
theorem ok_X11_fromOf : MOK mX11_fromOf 2 := ⟨xw_X11_fromOf, iw_NineSaintsModel, by decide +kernel, by decide +kernel, by decide⟩
theorem mv_X11_fromOf : MV mX11_fromOf 2 11 := ⟨ok_X11_fromOf, gt_in 2219 (by decide +kernel) (by decide +kernel), gt_in 140 (by decide +kernel) (by decide +kernel), _, rfl, rfl⟩
set_option maxRecDepth 100000 in
theorem xw_X11_getsBeside : Cond.code yX11_getsBeside cX11_getsBeside 8 (some .int) ∈ GT := gt_in 2368 rfl (by decide +kernel)
theorem ok_X11_getsBeside : MOK mX11_getsBeside 1 := ⟨xw_X11_getsBeside, iw_NineSaintsModel, by decide +kernel, by decide +kernel, by decide⟩
theorem mv_X11_getsBeside : MV mX11_getsBeside 1 11 := ⟨ok_X11_getsBeside, gt_in 2367 (by decide +kernel) (by decide +kernel), gt_in 164 (by decide +kernel) (by decide +kernel), _, rfl, rfl⟩
set_option maxRecDepth 100000 in
theorem xw_X11_go : Cond.code yX11_go cX11_go 4 (some .int) ∈ GT := gt_in 2038 rfl (by decide +kernel)
theorem ok_X11_go : MOK mX11_go 2 := ⟨xw_X11_go, iw_NineSaintsModel, by decide +kernel, by decide +kernel, by decide⟩
theorem mv_X11_go : MV mX11_go 2 11 := ⟨ok_X11_go, gt_in 2036 (by decide +kernel) (by decide +kernel), gt_in 2037 (by decide +kernel) (by decide +kernel), _, rfl, rfl⟩
set_option maxRecDepth 100000 in
theorem xw_X11_goesOn : Cond.code yX11_goesOn cX11_goesOn 2 (some .boolean) ∈ GT := gt_in 1910 rfl (by decide +kernel)
theorem ok_X11_goesOn : MOK mX11_goesOn 0 := ⟨xw_X11_goesOn, iw_NineSaintsModel, by decide +kernel, by decide +kernel, by decide⟩
theorem mv_X11_goesOn : MV mX11_goesOn 0 11 := ⟨ok_X11_goesOn, gt_in 1909 (by decide +kernel) (by decide +kernel), gt_in 89 (by decide +kernel) (by decide +kernel), _, rfl, rfl⟩
set_option maxRecDepth 100000 in
theorem xw_X11_goesOnTest : Cond.code yX11_goesOnTest cX11_goesOnTest 1 (some .boolean) ∈ GT := gt_in 1938 rfl (by decide +kernel)
theorem ok_X11_goesOnTest : MOK mX11_goesOnTest 0 := ⟨xw_X11_goesOnTest, iw_NineSaintsModel, by decide +kernel, by decide +kernel, by decide⟩
theorem mv_X11_goesOnTest : MV mX11_goesOnTest 0 11 := ⟨ok_X11_goesOnTest, gt_in 1937 (by decide +kernel) (by decide +kernel), gt_in 96 (by decide +kernel) (by decide +kernel), _, rfl, rfl⟩
set_option maxRecDepth 100000 in
theorem xw_X11_greater : Cond.code yX11_greater cX11_greater 2 (some .int) ∈ GT := gt_in 2230 rfl (by decide +kernel)
theorem ok_X11_greater : MOK mX11_greater 2 := ⟨xw_X11_greater, iw_NineSaintsModel, by decide +kernel, by decide +kernel, by decide⟩
theorem ms_X11_greater : MS mX11_greater 2 := ⟨ok_X11_greater, gt_in 2229 (by decide +kernel) (by decide +kernel)⟩
set_option maxRecDepth 100000 in
theorem xw_X11_has : Cond.code yX11_has cX11_has 2 (some .int) ∈ GT := gt_in 1966 rfl (by decide +kernel)
theorem ok_X11_has : MOK mX11_has 1 := ⟨xw_X11_has, iw_NineSaintsModel, by decide +kernel, by decide +kernel, by decide⟩
theorem mv_X11_has : MV mX11_has 1 11 := ⟨ok_X11_has, gt_in 1964 (by decide +kernel) (by decide +kernel), gt_in 1965 (by decide +kernel) (by decide +kernel), _, rfl, rfl⟩
set_option maxRecDepth 100000 in
theorem xw_X11_hasSquare : Cond.code yX11_hasSquare cX11_hasSquare 2 (some .boolean) ∈ GT := gt_in 1942 rfl (by decide +kernel)
theorem ok_X11_hasSquare : MOK mX11_hasSquare 0 := ⟨xw_X11_hasSquare, iw_NineSaintsModel, by decide +kernel, by decide +kernel, by decide⟩
theorem mv_X11_hasSquare : MV mX11_hasSquare 0 11 := ⟨ok_X11_hasSquare, gt_in 1941 (by decide +kernel) (by decide +kernel), gt_in 97 (by decide +kernel) (by decide +kernel), _, rfl, rfl⟩
set_option maxRecDepth 100000 in
theorem xw_X11_holds : Cond.code yX11_holds cX11_holds 4 (some .boolean) ∈ GT := gt_in 2154 rfl (by decide +kernel)
theorem ok_X11_holds : MOK mX11_holds 1 := ⟨xw_X11_holds, iw_NineSaintsModel, by decide +kernel, by decide +kernel, by decide⟩
theorem mv_X11_holds : MV mX11_holds 1 11 := ⟨ok_X11_holds, gt_in 2153 (by decide +kernel) (by decide +kernel), gt_in 132 (by decide +kernel) (by decide +kernel), _, rfl, rfl⟩
set_option maxRecDepth 100000 in
theorem xw_X11_homeOf : Cond.code yX11_homeOf cX11_homeOf 2 (some .int) ∈ GT := gt_in 2030 rfl (by decide +kernel)
theorem ok_X11_homeOf : MOK mX11_homeOf 1 := ⟨xw_X11_homeOf, iw_NineSaintsModel, by decide +kernel, by decide +kernel, by decide⟩
theorem mv_X11_homeOf : MV mX11_homeOf 1 11 := ⟨ok_X11_homeOf, gt_in 2029 (by decide +kernel) (by decide +kernel), gt_in 111 (by decide +kernel) (by decide +kernel), _, rfl, rfl⟩
set_option maxRecDepth 100000 in
theorem xw_X11_image : Cond.code yX11_image cX11_image 4 (some .int) ∈ GT := gt_in 2385 rfl (by decide +kernel)
theorem ok_X11_image : MOK mX11_image 0 := ⟨xw_X11_image, iw_NineSaintsModel, by decide +kernel, by decide +kernel, by decide⟩
theorem mv_X11_image : MV mX11_image 0 11 := ⟨ok_X11_image, gt_in 2383 (by decide +kernel) (by decide +kernel), gt_in 2384 (by decide +kernel) (by decide +kernel), _, rfl, rfl⟩
set_option maxRecDepth 100000 in
theorem xw_X11_init : Cond.code yX11_init cX11_init 1 none ∈ GT := gt_in 1502 rfl (by decide +kernel)
theorem ok_X11_init : MOK mX11_init 0 := ⟨xw_X11_init, iw_NineSaintsModel, by decide +kernel, by decide +kernel, by decide⟩
theorem mi_X11_init : MI mX11_init 0 := ⟨ok_X11_init, gt_in 1501 (by decide +kernel) (by decide +kernel), rfl, rfl⟩
set_option maxRecDepth 100000 in
theorem xw_X11_isAlone : Cond.code yX11_isAlone cX11_isAlone 4 (some .boolean) ∈ GT := gt_in 2352 rfl (by decide +kernel)
theorem ok_X11_isAlone : MOK mX11_isAlone 2 := ⟨xw_X11_isAlone, iw_NineSaintsModel, by decide +kernel, by decide +kernel, by decide⟩
theorem mv_X11_isAlone : MV mX11_isAlone 2 11 := ⟨ok_X11_isAlone, gt_in 2351 (by decide +kernel) (by decide +kernel), gt_in 161 (by decide +kernel) (by decide +kernel), _, rfl, rfl⟩
set_option maxRecDepth 100000 in
theorem xw_X11_isChosen : Cond.code yX11_isChosen cX11_isChosen 6 (some .boolean) ∈ GT := gt_in 2292 rfl (by decide +kernel)
theorem ok_X11_isChosen : MOK mX11_isChosen 3 := ⟨xw_X11_isChosen, iw_NineSaintsModel, by decide +kernel, by decide +kernel, by decide⟩
theorem mv_X11_isChosen : MV mX11_isChosen 3 11 := ⟨ok_X11_isChosen, gt_in 2291 (by decide +kernel) (by decide +kernel), gt_in 150 (by decide +kernel) (by decide +kernel), _, rfl, rfl⟩
set_option maxRecDepth 100000 in
theorem xw_X11_isCorner : Cond.code yX11_isCorner cX11_isCorner 2 (some .boolean) ∈ GT := gt_in 2007 rfl (by decide +kernel)
theorem ok_X11_isCorner : MOK mX11_isCorner 1 := ⟨xw_X11_isCorner, iw_NineSaintsModel, by decide +kernel, by decide +kernel, by decide⟩
theorem mv_X11_isCorner : MV mX11_isCorner 1 11 := ⟨ok_X11_isCorner, gt_in 2006 (by decide +kernel) (by decide +kernel), gt_in 107 (by decide +kernel) (by decide +kernel), _, rfl, rfl⟩
set_option maxRecDepth 100000 in
theorem xw_X11_isDigit : Cond.code yX11_isDigit cX11_isDigit 1 (some .boolean) ∈ GT := gt_in 1851 rfl (by decide +kernel)
theorem ok_X11_isDigit : MOK mX11_isDigit 1 := ⟨xw_X11_isDigit, iw_NineSaintsModel, by decide +kernel, by decide +kernel, by decide⟩
theorem ms_X11_isDigit : MS mX11_isDigit 1 := ⟨ok_X11_isDigit, gt_in 1850 (by decide +kernel) (by decide +kernel)⟩
set_option maxRecDepth 100000 in
theorem xw_X11_isExcepted : Cond.code yX11_isExcepted cX11_isExcepted 7 (some .boolean) ∈ GT := gt_in 2150 rfl (by decide +kernel)
theorem ok_X11_isExcepted : MOK mX11_isExcepted 5 := ⟨xw_X11_isExcepted, iw_NineSaintsModel, by decide +kernel, by decide +kernel, by decide⟩
theorem mv_X11_isExcepted : MV mX11_isExcepted 5 11 := ⟨ok_X11_isExcepted, gt_in 2149 (by decide +kernel) (by decide +kernel), gt_in 131 (by decide +kernel) (by decide +kernel), _, rfl, rfl⟩
set_option maxRecDepth 100000 in
theorem xw_X11_isFull : Cond.code yX11_isFull cX11_isFull 4 (some .boolean) ∈ GT := gt_in 1822 rfl (by decide +kernel)
theorem ok_X11_isFull : MOK mX11_isFull 3 := ⟨xw_X11_isFull, iw_NineSaintsModel, by decide +kernel, by decide +kernel, by decide⟩
theorem mv_X11_isFull : MV mX11_isFull 3 11 := ⟨ok_X11_isFull, gt_in 1821 (by decide +kernel) (by decide +kernel), gt_in 69 (by decide +kernel) (by decide +kernel), _, rfl, rfl⟩
set_option maxRecDepth 100000 in
theorem xw_X11_isHere : Cond.code yX11_isHere cX11_isHere 4 (some .boolean) ∈ GT := gt_in 1811 rfl (by decide +kernel)
theorem ok_X11_isHere : MOK mX11_isHere 1 := ⟨xw_X11_isHere, iw_NineSaintsModel, by decide +kernel, by decide +kernel, by decide⟩
theorem mv_X11_isHere : MV mX11_isHere 1 11 := ⟨ok_X11_isHere, gt_in 1810 (by decide +kernel) (by decide +kernel), gt_in 67 (by decide +kernel) (by decide +kernel), _, rfl, rfl⟩
set_option maxRecDepth 100000 in
theorem xw_X11_isIn : Cond.code yX11_isIn cX11_isIn 6 (some .boolean) ∈ GT := gt_in 1854 rfl (by decide +kernel)
theorem ok_X11_isIn : MOK mX11_isIn 3 := ⟨xw_X11_isIn, iw_NineSaintsModel, by decide +kernel, by decide +kernel, by decide⟩
theorem ms_X11_isIn : MS mX11_isIn 3 := ⟨ok_X11_isIn, gt_in 1853 (by decide +kernel) (by decide +kernel)⟩
set_option maxRecDepth 100000 in
theorem xw_X11_isLane : Cond.code yX11_isLane cX11_isLane 2 (some .boolean) ∈ GT := gt_in 1998 rfl (by decide +kernel)
theorem ok_X11_isLane : MOK mX11_isLane 1 := ⟨xw_X11_isLane, iw_NineSaintsModel, by decide +kernel, by decide +kernel, by decide⟩
theorem mv_X11_isLane : MV mX11_isLane 1 11 := ⟨ok_X11_isLane, gt_in 1997 (by decide +kernel) (by decide +kernel), gt_in 106 (by decide +kernel) (by decide +kernel), _, rfl, rfl⟩
set_option maxRecDepth 100000 in
theorem xw_X11_isLawful : Cond.code yX11_isLawful cX11_isLawful 3 (some .boolean) ∈ GT := gt_in 2208 rfl (by decide +kernel)
theorem ok_X11_isLawful : MOK mX11_isLawful 0 := ⟨xw_X11_isLawful, iw_NineSaintsModel, by decide +kernel, by decide +kernel, by decide⟩
theorem mv_X11_isLawful : MV mX11_isLawful 0 11 := ⟨ok_X11_isLawful, gt_in 2207 (by decide +kernel) (by decide +kernel), gt_in 137 (by decide +kernel) (by decide +kernel), _, rfl, rfl⟩
set_option maxRecDepth 100000 in
theorem xw_X11_isLetter : Cond.code yX11_isLetter cX11_isLetter 1 (some .boolean) ∈ GT := gt_in 1814 rfl (by decide +kernel)
theorem ok_X11_isLetter : MOK mX11_isLetter 1 := ⟨xw_X11_isLetter, iw_NineSaintsModel, by decide +kernel, by decide +kernel, by decide⟩
theorem ms_X11_isLetter : MS mX11_isLetter 1 := ⟨ok_X11_isLetter, gt_in 1813 (by decide +kernel) (by decide +kernel)⟩
set_option maxRecDepth 100000 in
theorem xw_X11_isMark : Cond.code yX11_isMark cX11_isMark 2 (some .boolean) ∈ GT := gt_in 1918 rfl (by decide +kernel)
theorem ok_X11_isMark : MOK mX11_isMark 1 := ⟨xw_X11_isMark, iw_NineSaintsModel, by decide +kernel, by decide +kernel, by decide⟩
theorem mv_X11_isMark : MV mX11_isMark 1 11 := ⟨ok_X11_isMark, gt_in 1917 (by decide +kernel) (by decide +kernel), gt_in 91 (by decide +kernel) (by decide +kernel), _, rfl, rfl⟩
set_option maxRecDepth 100000 in
theorem xw_X11_isOff : Cond.code yX11_isOff cX11_isOff 10 (some .boolean) ∈ GT := gt_in 2234 rfl (by decide +kernel)
theorem ok_X11_isOff : MOK mX11_isOff 2 := ⟨xw_X11_isOff, iw_NineSaintsModel, by decide +kernel, by decide +kernel, by decide⟩
theorem mv_X11_isOff : MV mX11_isOff 2 11 := ⟨ok_X11_isOff, gt_in 2233 (by decide +kernel) (by decide +kernel), gt_in 142 (by decide +kernel) (by decide +kernel), _, rfl, rfl⟩
set_option maxRecDepth 100000 in
theorem xw_X11_isOn : Cond.code yX11_isOn cX11_isOn 2 (some .boolean) ∈ GT := gt_in 1930 rfl (by decide +kernel)
theorem ok_X11_isOn : MOK mX11_isOn 1 := ⟨xw_X11_isOn, iw_NineSaintsModel, by decide +kernel, by decide +kernel, by decide⟩
theorem mv_X11_isOn : MV mX11_isOn 1 11 := ⟨ok_X11_isOn, gt_in 1929 (by decide +kernel) (by decide +kernel), gt_in 94 (by decide +kernel) (by decide +kernel), _, rfl, rfl⟩
set_option maxRecDepth 100000 in
theorem xw_X11_isOrder : Cond.code yX11_isOrder cX11_isOrder 5 (some .boolean) ∈ GT := gt_in 2364 rfl (by decide +kernel)
theorem ok_X11_isOrder : MOK mX11_isOrder 1 := ⟨xw_X11_isOrder, iw_NineSaintsModel, by decide +kernel, by decide +kernel, by decide⟩
theorem mv_X11_isOrder : MV mX11_isOrder 1 11 := ⟨ok_X11_isOrder, gt_in 2363 (by decide +kernel) (by decide +kernel), gt_in 163 (by decide +kernel) (by decide +kernel), _, rfl, rfl⟩
set_option maxRecDepth 100000 in
theorem xw_X11_isOwnHere : Cond.code yX11_isOwnHere cX11_isOwnHere 2 (some .boolean) ∈ GT := gt_in 1834 rfl (by decide +kernel)
theorem ok_X11_isOwnHere : MOK mX11_isOwnHere 0 := ⟨xw_X11_isOwnHere, iw_NineSaintsModel, by decide +kernel, by decide +kernel, by decide⟩
theorem mv_X11_isOwnHere : MV mX11_isOwnHere 0 11 := ⟨ok_X11_isOwnHere, gt_in 1833 (by decide +kernel) (by decide +kernel), gt_in 72 (by decide +kernel) (by decide +kernel), _, rfl, rfl⟩
set_option maxRecDepth 100000 in
theorem xw_X11_isPleased : Cond.code yX11_isPleased cX11_isPleased 5 (some .boolean) ∈ GT := gt_in 2188 rfl (by decide +kernel)
theorem ok_X11_isPleased : MOK mX11_isPleased 1 := ⟨xw_X11_isPleased, iw_NineSaintsModel, by decide +kernel, by decide +kernel, by decide⟩
theorem mv_X11_isPleased : MV mX11_isPleased 1 11 := ⟨ok_X11_isPleased, gt_in 2187 (by decide +kernel) (by decide +kernel), gt_in 135 (by decide +kernel) (by decide +kernel), _, rfl, rfl⟩
set_option maxRecDepth 100000 in
theorem xw_X11_isSaint : Cond.code yX11_isSaint cX11_isSaint 2 (some .boolean) ∈ GT := gt_in 2015 rfl (by decide +kernel)
theorem ok_X11_isSaint : MOK mX11_isSaint 1 := ⟨xw_X11_isSaint, iw_NineSaintsModel, by decide +kernel, by decide +kernel, by decide⟩
theorem mv_X11_isSaint : MV mX11_isSaint 1 11 := ⟨ok_X11_isSaint, gt_in 2014 (by decide +kernel) (by decide +kernel), gt_in 108 (by decide +kernel) (by decide +kernel), _, rfl, rfl⟩
set_option maxRecDepth 100000 in
theorem xw_X11_isShut : Cond.code yX11_isShut cX11_isShut 2 (some .boolean) ∈ GT := gt_in 2046 rfl (by decide +kernel)
theorem ok_X11_isShut : MOK mX11_isShut 1 := ⟨xw_X11_isShut, iw_NineSaintsModel, by decide +kernel, by decide +kernel, by decide⟩
theorem mv_X11_isShut : MV mX11_isShut 1 11 := ⟨ok_X11_isShut, gt_in 2045 (by decide +kernel) (by decide +kernel), gt_in 113 (by decide +kernel) (by decide +kernel), _, rfl, rfl⟩
set_option maxRecDepth 100000 in
theorem xw_X11_isStepTold : Cond.code yX11_isStepTold cX11_isStepTold 5 (some .boolean) ∈ GT := gt_in 2408 rfl (by decide +kernel)
theorem ok_X11_isStepTold : MOK mX11_isStepTold 2 := ⟨xw_X11_isStepTold, iw_NineSaintsModel, by decide +kernel, by decide +kernel, by decide⟩
theorem mv_X11_isStepTold : MV mX11_isStepTold 2 11 := ⟨ok_X11_isStepTold, gt_in 2407 (by decide +kernel) (by decide +kernel), gt_in 169 (by decide +kernel) (by decide +kernel), _, rfl, rfl⟩
set_option maxRecDepth 100000 in
theorem xw_X11_isTold : Cond.code yX11_isTold cX11_isTold 7 (some .boolean) ∈ GT := gt_in 2404 rfl (by decide +kernel)
theorem ok_X11_isTold : MOK mX11_isTold 1 := ⟨xw_X11_isTold, iw_NineSaintsModel, by decide +kernel, by decide +kernel, by decide⟩
theorem mv_X11_isTold : MV mX11_isTold 1 11 := ⟨ok_X11_isTold, gt_in 2403 (by decide +kernel) (by decide +kernel), gt_in 168 (by decide +kernel) (by decide +kernel), _, rfl, rfl⟩
set_option maxRecDepth 100000 in
theorem xw_X11_isUpon : Cond.code yX11_isUpon cX11_isUpon 5 (some .boolean) ∈ GT := gt_in 2146 rfl (by decide +kernel)
theorem ok_X11_isUpon : MOK mX11_isUpon 3 := ⟨xw_X11_isUpon, iw_NineSaintsModel, by decide +kernel, by decide +kernel, by decide⟩
theorem mv_X11_isUpon : MV mX11_isUpon 3 11 := ⟨ok_X11_isUpon, gt_in 2145 (by decide +kernel) (by decide +kernel), gt_in 130 (by decide +kernel) (by decide +kernel), _, rfl, rfl⟩
set_option maxRecDepth 100000 in
theorem xw_X11_isWhole : Cond.code yX11_isWhole cX11_isWhole 3 (some .boolean) ∈ GT := gt_in 2320 rfl (by decide +kernel)
theorem ok_X11_isWhole : MOK mX11_isWhole 1 := ⟨xw_X11_isWhole, iw_NineSaintsModel, by decide +kernel, by decide +kernel, by decide⟩
theorem mv_X11_isWhole : MV mX11_isWhole 1 11 := ⟨ok_X11_isWhole, gt_in 2319 (by decide +kernel) (by decide +kernel), gt_in 157 (by decide +kernel) (by decide +kernel), _, rfl, rfl⟩
set_option maxRecDepth 100000 in
theorem xw_X11_joins : Cond.code yX11_joins cX11_joins 6 none ∈ GT := gt_in 2164 rfl (by decide +kernel)
theorem ok_X11_joins : MOK mX11_joins 1 := ⟨xw_X11_joins, iw_NineSaintsModel, by decide +kernel, by decide +kernel, by decide⟩
theorem mv_X11_joins : MV mX11_joins 1 11 := ⟨ok_X11_joins, gt_in 2163 (by decide +kernel) (by decide +kernel), gt_in 134 (by decide +kernel) (by decide +kernel), _, rfl, rfl⟩
set_option maxRecDepth 100000 in
theorem xw_X11_keeps : Cond.code yX11_keeps cX11_keeps 1 none ∈ GT := gt_in 2062 rfl (by decide +kernel)
theorem ok_X11_keeps : MOK mX11_keeps 0 := ⟨xw_X11_keeps, iw_NineSaintsModel, by decide +kernel, by decide +kernel, by decide⟩
theorem mv_X11_keeps : MV mX11_keeps 0 11 := ⟨ok_X11_keeps, gt_in 2061 (by decide +kernel) (by decide +kernel), gt_in 117 (by decide +kernel) (by decide +kernel), _, rfl, rfl⟩
set_option maxRecDepth 100000 in
theorem xw_X11_keepsAside : Cond.code yX11_keepsAside cX11_keepsAside 2 none ∈ GT := gt_in 2070 rfl (by decide +kernel)
theorem ok_X11_keepsAside : MOK mX11_keepsAside 0 := ⟨xw_X11_keepsAside, iw_NineSaintsModel, by decide +kernel, by decide +kernel, by decide⟩
theorem mv_X11_keepsAside : MV mX11_keepsAside 0 11 := ⟨ok_X11_keepsAside, gt_in 2069 (by decide +kernel) (by decide +kernel), gt_in 119 (by decide +kernel) (by decide +kernel), _, rfl, rfl⟩
set_option maxRecDepth 100000 in
theorem xw_X11_lane : Cond.code yX11_lane cX11_lane 3 (some .int) ∈ GT := gt_in 1994 rfl (by decide +kernel)
theorem ok_X11_lane : MOK mX11_lane 2 := ⟨xw_X11_lane, iw_NineSaintsModel, by decide +kernel, by decide +kernel, by decide⟩
theorem mv_X11_lane : MV mX11_lane 2 11 := ⟨ok_X11_lane, gt_in 1992 (by decide +kernel) (by decide +kernel), gt_in 1993 (by decide +kernel) (by decide +kernel), _, rfl, rfl⟩
set_option maxRecDepth 100000 in
theorem xw_X11_laneMany : Cond.code yX11_laneMany cX11_laneMany 1 (some .int) ∈ GT := gt_in 1958 rfl (by decide +kernel)
theorem ok_X11_laneMany : MOK mX11_laneMany 0 := ⟨xw_X11_laneMany, iw_NineSaintsModel, by decide +kernel, by decide +kernel, by decide⟩
theorem mv_X11_laneMany : MV mX11_laneMany 0 11 := ⟨ok_X11_laneMany, gt_in 1957 (by decide +kernel) (by decide +kernel), gt_in 101 (by decide +kernel) (by decide +kernel), _, rfl, rfl⟩
set_option maxRecDepth 100000 in
theorem xw_X11_laneOf : Cond.code yX11_laneOf cX11_laneOf 5 (some .int) ∈ GT := gt_in 2042 rfl (by decide +kernel)
theorem ok_X11_laneOf : MOK mX11_laneOf 2 := ⟨xw_X11_laneOf, iw_NineSaintsModel, by decide +kernel, by decide +kernel, by decide⟩
theorem mv_X11_laneOf : MV mX11_laneOf 2 11 := ⟨ok_X11_laneOf, gt_in 2041 (by decide +kernel) (by decide +kernel), gt_in 112 (by decide +kernel) (by decide +kernel), _, rfl, rfl⟩
set_option maxRecDepth 100000 in
theorem xw_X11_lastOf : Cond.code yX11_lastOf cX11_lastOf 3 (some .int) ∈ GT := gt_in 2308 rfl (by decide +kernel)
theorem ok_X11_lastOf : MOK mX11_lastOf 2 := ⟨xw_X11_lastOf, iw_NineSaintsModel, by decide +kernel, by decide +kernel, by decide⟩
theorem mv_X11_lastOf : MV mX11_lastOf 2 11 := ⟨ok_X11_lastOf, gt_in 2307 (by decide +kernel) (by decide +kernel), gt_in 154 (by decide +kernel) (by decide +kernel), _, rfl, rfl⟩
set_option maxRecDepth 100000 in
theorem xw_X11_leastAlone : Cond.code yX11_leastAlone cX11_leastAlone 5 (some .int) ∈ GT := gt_in 2360 rfl (by decide +kernel)
theorem ok_X11_leastAlone : MOK mX11_leastAlone 1 := ⟨xw_X11_leastAlone, iw_NineSaintsModel, by decide +kernel, by decide +kernel, by decide⟩
theorem mv_X11_leastAlone : MV mX11_leastAlone 1 11 := ⟨ok_X11_leastAlone, gt_in 2359 (by decide +kernel) (by decide +kernel), gt_in 162 (by decide +kernel) (by decide +kernel), _, rfl, rfl⟩
set_option maxRecDepth 100000 in
theorem xw_X11_leaves : Cond.code yX11_leaves cX11_leaves 3 (some .int) ∈ GT := gt_in 2104 rfl (by decide +kernel)
theorem ok_X11_leaves : MOK mX11_leaves 2 := ⟨xw_X11_leaves, iw_NineSaintsModel, by decide +kernel, by decide +kernel, by decide⟩
theorem mv_X11_leaves : MV mX11_leaves 2 11 := ⟨ok_X11_leaves, gt_in 2103 (by decide +kernel) (by decide +kernel), gt_in 123 (by decide +kernel) (by decide +kernel), _, rfl, rfl⟩
set_option maxRecDepth 100000 in
theorem xw_X11_lesser : Cond.code yX11_lesser cX11_lesser 2 (some .int) ∈ GT := gt_in 2227 rfl (by decide +kernel)
theorem ok_X11_lesser : MOK mX11_lesser 2 := ⟨xw_X11_lesser, iw_NineSaintsModel, by decide +kernel, by decide +kernel, by decide⟩
theorem ms_X11_lesser : MS mX11_lesser 2 := ⟨ok_X11_lesser, gt_in 2226 (by decide +kernel) (by decide +kernel)⟩
set_option maxRecDepth 100000 in
theorem xw_X11_letter : Cond.code yX11_letter cX11_letter 9 (some .int) ∈ GT := gt_in 1989 rfl (by decide +kernel)
theorem ok_X11_letter : MOK mX11_letter 3 := ⟨xw_X11_letter, iw_NineSaintsModel, by decide +kernel, by decide +kernel, by decide⟩
theorem mv_X11_letter : MV mX11_letter 3 11 := ⟨ok_X11_letter, gt_in 1987 (by decide +kernel) (by decide +kernel), gt_in 1988 (by decide +kernel) (by decide +kernel), _, rfl, rfl⟩
set_option maxRecDepth 100000 in
theorem xw_X11_longOf : Cond.code yX11_longOf cX11_longOf 3 (some .int) ∈ GT := gt_in 2050 rfl (by decide +kernel)
theorem ok_X11_longOf : MOK mX11_longOf 2 := ⟨xw_X11_longOf, iw_NineSaintsModel, by decide +kernel, by decide +kernel, by decide⟩
theorem mv_X11_longOf : MV mX11_longOf 2 11 := ⟨ok_X11_longOf, gt_in 2049 (by decide +kernel) (by decide +kernel), gt_in 114 (by decide +kernel) (by decide +kernel), _, rfl, rfl⟩
set_option maxRecDepth 100000 in
theorem xw_X11_look : Cond.code yX11_look cX11_look 1 (some .int) ∈ GT := gt_in 1795 rfl (by decide +kernel)
theorem ok_X11_look : MOK mX11_look 0 := ⟨xw_X11_look, iw_NineSaintsModel, by decide +kernel, by decide +kernel, by decide⟩
theorem mv_X11_look : MV mX11_look 0 11 := ⟨ok_X11_look, gt_in 1794 (by decide +kernel) (by decide +kernel), gt_in 63 (by decide +kernel) (by decide +kernel), _, rfl, rfl⟩
set_option maxRecDepth 100000 in
theorem xw_X11_lots : Cond.code yX11_lots cX11_lots 7 (some .int) ∈ GT := gt_in 2356 rfl (by decide +kernel)
theorem ok_X11_lots : MOK mX11_lots 1 := ⟨xw_X11_lots, iw_NineSaintsModel, by decide +kernel, by decide +kernel, by decide⟩
theorem mv_X11_lots : MV mX11_lots 1 11 := ⟨ok_X11_lots, gt_in 2354 (by decide +kernel) (by decide +kernel), gt_in 2355 (by decide +kernel) (by decide +kernel), _, rfl, rfl⟩
set_option maxRecDepth 100000 in
theorem xw_X11_louder : Cond.code yX11_louder cX11_louder 5 (some .int) ∈ GT := gt_in 2138 rfl (by decide +kernel)
theorem ok_X11_louder : MOK mX11_louder 2 := ⟨xw_X11_louder, iw_NineSaintsModel, by decide +kernel, by decide +kernel, by decide⟩
theorem mv_X11_louder : MV mX11_louder 2 11 := ⟨ok_X11_louder, gt_in 2137 (by decide +kernel) (by decide +kernel), gt_in 128 (by decide +kernel) (by decide +kernel), _, rfl, rfl⟩
set_option maxRecDepth 100000 in
theorem xw_X11_mark : Cond.code yX11_mark cX11_mark 2 (some .int) ∈ GT := gt_in 1914 rfl (by decide +kernel)
theorem ok_X11_mark : MOK mX11_mark 0 := ⟨xw_X11_mark, iw_NineSaintsModel, by decide +kernel, by decide +kernel, by decide⟩
theorem mv_X11_mark : MV mX11_mark 0 11 := ⟨ok_X11_mark, gt_in 1913 (by decide +kernel) (by decide +kernel), gt_in 90 (by decide +kernel) (by decide +kernel), _, rfl, rfl⟩
set_option maxRecDepth 100000 in
theorem xw_X11_meet : Cond.code yX11_meet cX11_meet 4 (some .int) ∈ GT := gt_in 2180 rfl (by decide +kernel)
theorem ok_X11_meet : MOK mX11_meet 2 := ⟨xw_X11_meet, iw_NineSaintsModel, by decide +kernel, by decide +kernel, by decide⟩
theorem mv_X11_meet : MV mX11_meet 2 11 := ⟨ok_X11_meet, gt_in 2178 (by decide +kernel) (by decide +kernel), gt_in 2179 (by decide +kernel) (by decide +kernel), _, rfl, rfl⟩
set_option maxRecDepth 100000 in
theorem xw_X11_mend : Cond.code yX11_mend cX11_mend 2 (some .int) ∈ GT := gt_in 2344 rfl (by decide +kernel)
theorem ok_X11_mend : MOK mX11_mend 0 := ⟨xw_X11_mend, iw_NineSaintsModel, by decide +kernel, by decide +kernel, by decide⟩
theorem mv_X11_mend : MV mX11_mend 0 11 := ⟨ok_X11_mend, gt_in 2342 (by decide +kernel) (by decide +kernel), gt_in 2343 (by decide +kernel) (by decide +kernel), _, rfl, rfl⟩
set_option maxRecDepth 100000 in
theorem xw_X11_name : Cond.code yX11_name cX11_name 3 (some .long) ∈ GT := gt_in 1830 rfl (by decide +kernel)
theorem ok_X11_name : MOK mX11_name 0 := ⟨xw_X11_name, iw_NineSaintsModel, by decide +kernel, by decide +kernel, by decide⟩
theorem mv_X11_name : MV mX11_name 0 11 := ⟨ok_X11_name, gt_in 1829 (by decide +kernel) (by decide +kernel), gt_in 71 (by decide +kernel) (by decide +kernel), _, rfl, rfl⟩
set_option maxRecDepth 100000 in
theorem xw_X11_nameOf : Cond.code yX11_nameOf cX11_nameOf 5 (some .int) ∈ GT := gt_in 1840 rfl (by decide +kernel)
theorem ok_X11_nameOf : MOK mX11_nameOf 2 := ⟨xw_X11_nameOf, iw_NineSaintsModel, by decide +kernel, by decide +kernel, by decide⟩
theorem mv_X11_nameOf : MV mX11_nameOf 2 11 := ⟨ok_X11_nameOf, gt_in 1839 (by decide +kernel) (by decide +kernel), gt_in 73 (by decide +kernel) (by decide +kernel), _, rfl, rfl⟩
set_option maxRecDepth 100000 in
theorem xw_X11_newBalcony : Cond.code yX11_newBalcony cX11_newBalcony 3 none ∈ GT := gt_in 1870 rfl (by decide +kernel)
theorem ok_X11_newBalcony : MOK mX11_newBalcony 1 := ⟨xw_X11_newBalcony, iw_NineSaintsModel, by decide +kernel, by decide +kernel, by decide⟩
theorem mv_X11_newBalcony : MV mX11_newBalcony 1 11 := ⟨ok_X11_newBalcony, gt_in 1869 (by decide +kernel) (by decide +kernel), gt_in 79 (by decide +kernel) (by decide +kernel), _, rfl, rfl⟩
set_option maxRecDepth 100000 in
theorem xw_X11_newCorner : Cond.code yX11_newCorner cX11_newCorner 4 none ∈ GT := gt_in 1818 rfl (by decide +kernel)
theorem ok_X11_newCorner : MOK mX11_newCorner 1 := ⟨xw_X11_newCorner, iw_NineSaintsModel, by decide +kernel, by decide +kernel, by decide⟩
theorem mv_X11_newCorner : MV mX11_newCorner 1 11 := ⟨ok_X11_newCorner, gt_in 1817 (by decide +kernel) (by decide +kernel), gt_in 68 (by decide +kernel) (by decide +kernel), _, rfl, rfl⟩
set_option maxRecDepth 100000 in
theorem xw_X11_newException : Cond.code yX11_newException cX11_newException 4 none ∈ GT := gt_in 1874 rfl (by decide +kernel)
theorem ok_X11_newException : MOK mX11_newException 1 := ⟨xw_X11_newException, iw_NineSaintsModel, by decide +kernel, by decide +kernel, by decide⟩
theorem mv_X11_newException : MV mX11_newException 1 11 := ⟨ok_X11_newException, gt_in 1873 (by decide +kernel) (by decide +kernel), gt_in 80 (by decide +kernel) (by decide +kernel), _, rfl, rfl⟩
set_option maxRecDepth 100000 in
theorem xw_X11_newLane : Cond.code yX11_newLane cX11_newLane 8 none ∈ GT := gt_in 1858 rfl (by decide +kernel)
theorem ok_X11_newLane : MOK mX11_newLane 1 := ⟨xw_X11_newLane, iw_NineSaintsModel, by decide +kernel, by decide +kernel, by decide⟩
theorem mv_X11_newLane : MV mX11_newLane 1 11 := ⟨ok_X11_newLane, gt_in 1857 (by decide +kernel) (by decide +kernel), gt_in 76 (by decide +kernel) (by decide +kernel), _, rfl, rfl⟩
set_option maxRecDepth 100000 in
theorem xw_X11_newName : Cond.code yX11_newName cX11_newName 5 (some .int) ∈ GT := gt_in 1826 rfl (by decide +kernel)
theorem ok_X11_newName : MOK mX11_newName 1 := ⟨xw_X11_newName, iw_NineSaintsModel, by decide +kernel, by decide +kernel, by decide⟩
theorem mv_X11_newName : MV mX11_newName 1 11 := ⟨ok_X11_newName, gt_in 1825 (by decide +kernel) (by decide +kernel), gt_in 70 (by decide +kernel) (by decide +kernel), _, rfl, rfl⟩
set_option maxRecDepth 100000 in
theorem xw_X11_newSaint : Cond.code yX11_newSaint cX11_newSaint 7 none ∈ GT := gt_in 1866 rfl (by decide +kernel)
theorem ok_X11_newSaint : MOK mX11_newSaint 1 := ⟨xw_X11_newSaint, iw_NineSaintsModel, by decide +kernel, by decide +kernel, by decide⟩
theorem mv_X11_newSaint : MV mX11_newSaint 1 11 := ⟨ok_X11_newSaint, gt_in 1865 (by decide +kernel) (by decide +kernel), gt_in 78 (by decide +kernel) (by decide +kernel), _, rfl, rfl⟩
set_option maxRecDepth 100000 in
theorem xw_X11_number : Cond.code yX11_number cX11_number 5 (some .int) ∈ GT := gt_in 1848 rfl (by decide +kernel)
theorem ok_X11_number : MOK mX11_number 2 := ⟨xw_X11_number, iw_NineSaintsModel, by decide +kernel, by decide +kernel, by decide⟩
theorem mv_X11_number : MV mX11_number 2 11 := ⟨ok_X11_number, gt_in 1847 (by decide +kernel) (by decide +kernel), gt_in 75 (by decide +kernel) (by decide +kernel), _, rfl, rfl⟩
set_option maxRecDepth 100000 in
theorem xw_X11_octet : Cond.code yX11_octet cX11_octet 2 (some .int) ∈ GT := gt_in 2396 rfl (by decide +kernel)
theorem ok_X11_octet : MOK mX11_octet 1 := ⟨xw_X11_octet, iw_NineSaintsModel, by decide +kernel, by decide +kernel, by decide⟩
theorem mv_X11_octet : MV mX11_octet 1 11 := ⟨ok_X11_octet, gt_in 2394 (by decide +kernel) (by decide +kernel), gt_in 2395 (by decide +kernel) (by decide +kernel), _, rfl, rfl⟩
set_option maxRecDepth 100000 in
theorem xw_X11_on : Cond.code yX11_on cX11_on 3 (some .int) ∈ GT := gt_in 2096 rfl (by decide +kernel)
theorem ok_X11_on : MOK mX11_on 2 := ⟨xw_X11_on, iw_NineSaintsModel, by decide +kernel, by decide +kernel, by decide⟩
theorem mv_X11_on : MV mX11_on 2 11 := ⟨ok_X11_on, gt_in 2094 (by decide +kernel) (by decide +kernel), gt_in 2095 (by decide +kernel) (by decide +kernel), _, rfl, rfl⟩
set_option maxRecDepth 100000 in
theorem xw_X11_onOf : Cond.code yX11_onOf cX11_onOf 4 (some .int) ∈ GT := gt_in 2100 rfl (by decide +kernel)
theorem ok_X11_onOf : MOK mX11_onOf 2 := ⟨xw_X11_onOf, iw_NineSaintsModel, by decide +kernel, by decide +kernel, by decide⟩
theorem mv_X11_onOf : MV mX11_onOf 2 11 := ⟨ok_X11_onOf, gt_in 2099 (by decide +kernel) (by decide +kernel), gt_in 122 (by decide +kernel) (by decide +kernel), _, rfl, rfl⟩
set_option maxRecDepth 100000 in
theorem xw_X11_onePart : Cond.code yX11_onePart cX11_onePart 5 none ∈ GT := gt_in 1898 rfl (by decide +kernel)
theorem ok_X11_onePart : MOK mX11_onePart 0 := ⟨xw_X11_onePart, iw_NineSaintsModel, by decide +kernel, by decide +kernel, by decide⟩
theorem mv_X11_onePart : MV mX11_onePart 0 11 := ⟨ok_X11_onePart, gt_in 1897 (by decide +kernel) (by decide +kernel), gt_in 86 (by decide +kernel) (by decide +kernel), _, rfl, rfl⟩
set_option maxRecDepth 100000 in
theorem xw_X11_opens : Cond.code yX11_opens cX11_opens 3 none ∈ GT := gt_in 1882 rfl (by decide +kernel)
theorem ok_X11_opens : MOK mX11_opens 2 := ⟨xw_X11_opens, iw_NineSaintsModel, by decide +kernel, by decide +kernel, by decide⟩
theorem mv_X11_opens : MV mX11_opens 2 11 := ⟨ok_X11_opens, gt_in 1881 (by decide +kernel) (by decide +kernel), gt_in 82 (by decide +kernel) (by decide +kernel), _, rfl, rfl⟩
set_option maxRecDepth 100000 in
theorem xw_X11_optionMany : Cond.code yX11_optionMany cX11_optionMany 2 (some .int) ∈ GT := gt_in 2312 rfl (by decide +kernel)
theorem ok_X11_optionMany : MOK mX11_optionMany 1 := ⟨xw_X11_optionMany, iw_NineSaintsModel, by decide +kernel, by decide +kernel, by decide⟩
theorem mv_X11_optionMany : MV mX11_optionMany 1 11 := ⟨ok_X11_optionMany, gt_in 2311 (by decide +kernel) (by decide +kernel), gt_in 155 (by decide +kernel) (by decide +kernel), _, rfl, rfl⟩
set_option maxRecDepth 100000 in
theorem xw_X11_options : Cond.code yX11_options cX11_options 2 none ∈ GT := gt_in 2277 rfl (by decide +kernel)
theorem ok_X11_options : MOK mX11_options 0 := ⟨xw_X11_options, iw_NineSaintsModel, by decide +kernel, by decide +kernel, by decide⟩
theorem mv_X11_options : MV mX11_options 0 11 := ⟨ok_X11_options, gt_in 2276 (by decide +kernel) (by decide +kernel), gt_in 147 (by decide +kernel) (by decide +kernel), _, rfl, rfl⟩
set_option maxRecDepth 100000 in
theorem xw_X11_optionsOf : Cond.code yX11_optionsOf cX11_optionsOf 9 none ∈ GT := gt_in 2281 rfl (by decide +kernel)
theorem ok_X11_optionsOf : MOK mX11_optionsOf 1 := ⟨xw_X11_optionsOf, iw_NineSaintsModel, by decide +kernel, by decide +kernel, by decide⟩
theorem mv_X11_optionsOf : MV mX11_optionsOf 1 11 := ⟨ok_X11_optionsOf, gt_in 2280 (by decide +kernel) (by decide +kernel), gt_in 148 (by decide +kernel) (by decide +kernel), _, rfl, rfl⟩
set_option maxRecDepth 100000 in
theorem xw_X11_paceOf : Cond.code yX11_paceOf cX11_paceOf 2 (some .int) ∈ GT := gt_in 2054 rfl (by decide +kernel)
theorem ok_X11_paceOf : MOK mX11_paceOf 1 := ⟨xw_X11_paceOf, iw_NineSaintsModel, by decide +kernel, by decide +kernel, by decide⟩
theorem mv_X11_paceOf : MV mX11_paceOf 1 11 := ⟨ok_X11_paceOf, gt_in 2053 (by decide +kernel) (by decide +kernel), gt_in 115 (by decide +kernel) (by decide +kernel), _, rfl, rfl⟩
set_option maxRecDepth 100000 in
theorem xw_X11_parishes : Cond.code yX11_parishes cX11_parishes 3 (some .int) ∈ GT := gt_in 1982 rfl (by decide +kernel)
theorem ok_X11_parishes : MOK mX11_parishes 0 := ⟨xw_X11_parishes, iw_NineSaintsModel, by decide +kernel, by decide +kernel, by decide⟩
theorem mv_X11_parishes : MV mX11_parishes 0 11 := ⟨ok_X11_parishes, gt_in 1981 (by decide +kernel) (by decide +kernel), gt_in 105 (by decide +kernel) (by decide +kernel), _, rfl, rfl⟩
set_option maxRecDepth 100000 in
theorem xw_X11_passes : Cond.code yX11_passes cX11_passes 4 (some .int) ∈ GT := gt_in 2124 rfl (by decide +kernel)
theorem ok_X11_passes : MOK mX11_passes 2 := ⟨xw_X11_passes, iw_NineSaintsModel, by decide +kernel, by decide +kernel, by decide⟩
theorem mv_X11_passes : MV mX11_passes 2 11 := ⟨ok_X11_passes, gt_in 2122 (by decide +kernel) (by decide +kernel), gt_in 2123 (by decide +kernel) (by decide +kernel), _, rfl, rfl⟩
set_option maxRecDepth 100000 in
theorem xw_X11_petals : Cond.code yX11_petals cX11_petals 5 (some .int) ∈ GT := gt_in 2108 rfl (by decide +kernel)
theorem ok_X11_petals : MOK mX11_petals 2 := ⟨xw_X11_petals, iw_NineSaintsModel, by decide +kernel, by decide +kernel, by decide⟩
theorem mv_X11_petals : MV mX11_petals 2 11 := ⟨ok_X11_petals, gt_in 2106 (by decide +kernel) (by decide +kernel), gt_in 2107 (by decide +kernel) (by decide +kernel), _, rfl, rfl⟩
set_option maxRecDepth 100000 in
theorem xw_X11_petalsOf : Cond.code yX11_petalsOf cX11_petalsOf 2 (some .int) ∈ GT := gt_in 2120 rfl (by decide +kernel)
theorem ok_X11_petalsOf : MOK mX11_petalsOf 1 := ⟨xw_X11_petalsOf, iw_NineSaintsModel, by decide +kernel, by decide +kernel, by decide⟩
theorem mv_X11_petalsOf : MV mX11_petalsOf 1 11 := ⟨ok_X11_petalsOf, gt_in 2119 (by decide +kernel) (by decide +kernel), gt_in 126 (by decide +kernel) (by decide +kernel), _, rfl, rfl⟩
set_option maxRecDepth 100000 in
theorem xw_X11_pleased : Cond.code yX11_pleased cX11_pleased 3 (some .int) ∈ GT := gt_in 2184 rfl (by decide +kernel)
theorem ok_X11_pleased : MOK mX11_pleased 0 := ⟨xw_X11_pleased, iw_NineSaintsModel, by decide +kernel, by decide +kernel, by decide⟩
theorem mv_X11_pleased : MV mX11_pleased 0 11 := ⟨ok_X11_pleased, gt_in 2182 (by decide +kernel) (by decide +kernel), gt_in 2183 (by decide +kernel) (by decide +kernel), _, rfl, rfl⟩
set_option maxRecDepth 100000 in
theorem xw_X11_puts : Cond.code yX11_puts cX11_puts 3 none ∈ GT := gt_in 2158 rfl (by decide +kernel)
theorem ok_X11_puts : MOK mX11_puts 1 := ⟨xw_X11_puts, iw_NineSaintsModel, by decide +kernel, by decide +kernel, by decide⟩
theorem mv_X11_puts : MV mX11_puts 1 11 := ⟨ok_X11_puts, gt_in 2157 (by decide +kernel) (by decide +kernel), gt_in 133 (by decide +kernel) (by decide +kernel), _, rfl, rfl⟩
set_option maxRecDepth 100000 in
theorem xw_X11_remembers : Cond.code yX11_remembers cX11_remembers 2 none ∈ GT := gt_in 2066 rfl (by decide +kernel)
theorem ok_X11_remembers : MOK mX11_remembers 0 := ⟨xw_X11_remembers, iw_NineSaintsModel, by decide +kernel, by decide +kernel, by decide⟩
theorem mv_X11_remembers : MV mX11_remembers 0 11 := ⟨ok_X11_remembers, gt_in 2065 (by decide +kernel) (by decide +kernel), gt_in 118 (by decide +kernel) (by decide +kernel), _, rfl, rfl⟩
set_option maxRecDepth 100000 in
theorem xw_X11_rest : Cond.code yX11_rest cX11_rest 3 (some .int) ∈ GT := gt_in 2078 rfl (by decide +kernel)
theorem ok_X11_rest : MOK mX11_rest 2 := ⟨xw_X11_rest, iw_NineSaintsModel, by decide +kernel, by decide +kernel, by decide⟩
theorem mv_X11_rest : MV mX11_rest 2 11 := ⟨ok_X11_rest, gt_in 2076 (by decide +kernel) (by decide +kernel), gt_in 2077 (by decide +kernel) (by decide +kernel), _, rfl, rfl⟩
set_option maxRecDepth 100000 in
theorem xw_X11_route : Cond.code yX11_route cX11_route 4 (some .int) ∈ GT := gt_in 2269 rfl (by decide +kernel)
theorem ok_X11_route : MOK mX11_route 3 := ⟨xw_X11_route, iw_NineSaintsModel, by decide +kernel, by decide +kernel, by decide⟩
theorem mv_X11_route : MV mX11_route 3 11 := ⟨ok_X11_route, gt_in 2267 (by decide +kernel) (by decide +kernel), gt_in 2268 (by decide +kernel) (by decide +kernel), _, rfl, rfl⟩
set_option maxRecDepth 100000 in
theorem xw_X11_routes : Cond.code yX11_routes cX11_routes 2 (some .int) ∈ GT := gt_in 2253 rfl (by decide +kernel)
theorem ok_X11_routes : MOK mX11_routes 1 := ⟨xw_X11_routes, iw_NineSaintsModel, by decide +kernel, by decide +kernel, by decide⟩
theorem mv_X11_routes : MV mX11_routes 1 11 := ⟨ok_X11_routes, gt_in 2251 (by decide +kernel) (by decide +kernel), gt_in 2252 (by decide +kernel) (by decide +kernel), _, rfl, rfl⟩
set_option maxRecDepth 100000 in
theorem xw_X11_routesOf : Cond.code yX11_routesOf cX11_routesOf 6 none ∈ GT := gt_in 2257 rfl (by decide +kernel)
theorem ok_X11_routesOf : MOK mX11_routesOf 1 := ⟨xw_X11_routesOf, iw_NineSaintsModel, by decide +kernel, by decide +kernel, by decide⟩
theorem mv_X11_routesOf : MV mX11_routesOf 1 11 := ⟨ok_X11_routesOf, gt_in 2256 (by decide +kernel) (by decide +kernel), gt_in 144 (by decide +kernel) (by decide +kernel), _, rfl, rfl⟩
set_option maxRecDepth 100000 in
theorem xw_X11_saint : Cond.code yX11_saint cX11_saint 3 (some .int) ∈ GT := gt_in 2011 rfl (by decide +kernel)
theorem ok_X11_saint : MOK mX11_saint 2 := ⟨xw_X11_saint, iw_NineSaintsModel, by decide +kernel, by decide +kernel, by decide⟩
theorem mv_X11_saint : MV mX11_saint 2 11 := ⟨ok_X11_saint, gt_in 2009 (by decide +kernel) (by decide +kernel), gt_in 2010 (by decide +kernel) (by decide +kernel), _, rfl, rfl⟩
set_option maxRecDepth 100000 in
theorem xw_X11_saintMany : Cond.code yX11_saintMany cX11_saintMany 1 (some .int) ∈ GT := gt_in 1974 rfl (by decide +kernel)
theorem ok_X11_saintMany : MOK mX11_saintMany 0 := ⟨xw_X11_saintMany, iw_NineSaintsModel, by decide +kernel, by decide +kernel, by decide⟩
theorem mv_X11_saintMany : MV mX11_saintMany 0 11 := ⟨ok_X11_saintMany, gt_in 1973 (by decide +kernel) (by decide +kernel), gt_in 103 (by decide +kernel) (by decide +kernel), _, rfl, rfl⟩
set_option maxRecDepth 100000 in
theorem xw_X11_saintOf : Cond.code yX11_saintOf cX11_saintOf 1 (some .int) ∈ GT := gt_in 2026 rfl (by decide +kernel)
theorem ok_X11_saintOf : MOK mX11_saintOf 1 := ⟨xw_X11_saintOf, iw_NineSaintsModel, by decide +kernel, by decide +kernel, by decide⟩
theorem ms_X11_saintOf : MS mX11_saintOf 1 := ⟨ok_X11_saintOf, gt_in 2025 (by decide +kernel) (by decide +kernel)⟩
set_option maxRecDepth 100000 in
theorem xw_X11_shut : Cond.code yX11_shut cX11_shut 3 (some .boolean) ∈ GT := gt_in 2238 rfl (by decide +kernel)
theorem ok_X11_shut : MOK mX11_shut 2 := ⟨xw_X11_shut, iw_NineSaintsModel, by decide +kernel, by decide +kernel, by decide⟩
theorem mv_X11_shut : MV mX11_shut 2 11 := ⟨ok_X11_shut, gt_in 2236 (by decide +kernel) (by decide +kernel), gt_in 2237 (by decide +kernel) (by decide +kernel), _, rfl, rfl⟩
set_option maxRecDepth 100000 in
theorem xw_X11_softer : Cond.code yX11_softer cX11_softer 5 (some .int) ∈ GT := gt_in 2200 rfl (by decide +kernel)
theorem ok_X11_softer : MOK mX11_softer 1 := ⟨xw_X11_softer, iw_NineSaintsModel, by decide +kernel, by decide +kernel, by decide⟩
theorem mv_X11_softer : MV mX11_softer 1 11 := ⟨ok_X11_softer, gt_in 2198 (by decide +kernel) (by decide +kernel), gt_in 2199 (by decide +kernel) (by decide +kernel), _, rfl, rfl⟩
set_option maxRecDepth 100000 in
theorem xw_X11_sound : Cond.code yX11_sound cX11_sound 3 (some .int) ∈ GT := gt_in 2003 rfl (by decide +kernel)
theorem ok_X11_sound : MOK mX11_sound 2 := ⟨xw_X11_sound, iw_NineSaintsModel, by decide +kernel, by decide +kernel, by decide⟩
theorem mv_X11_sound : MV mX11_sound 2 11 := ⟨ok_X11_sound, gt_in 2001 (by decide +kernel) (by decide +kernel), gt_in 2002 (by decide +kernel) (by decide +kernel), _, rfl, rfl⟩
set_option maxRecDepth 100000 in
theorem xw_X11_sounds : Cond.code yX11_sounds cX11_sounds 5 none ∈ GT := gt_in 1954 rfl (by decide +kernel)
theorem ok_X11_sounds : MOK mX11_sounds 0 := ⟨xw_X11_sounds, iw_NineSaintsModel, by decide +kernel, by decide +kernel, by decide⟩
theorem mv_X11_sounds : MV mX11_sounds 0 11 := ⟨ok_X11_sounds, gt_in 1953 (by decide +kernel) (by decide +kernel), gt_in 100 (by decide +kernel) (by decide +kernel), _, rfl, rfl⟩
set_option maxRecDepth 100000 in
theorem xw_X11_stands : Cond.code yX11_stands cX11_stands 2 none ∈ GT := gt_in 1950 rfl (by decide +kernel)
theorem ok_X11_stands : MOK mX11_stands 0 := ⟨xw_X11_stands, iw_NineSaintsModel, by decide +kernel, by decide +kernel, by decide⟩
theorem mv_X11_stands : MV mX11_stands 0 11 := ⟨ok_X11_stands, gt_in 1949 (by decide +kernel) (by decide +kernel), gt_in 99 (by decide +kernel) (by decide +kernel), _, rfl, rfl⟩
set_option maxRecDepth 100000 in
theorem xw_X11_statementTold : Cond.code yX11_statementTold cX11_statementTold 2 none ∈ GT := gt_in 1799 rfl (by decide +kernel)
theorem ok_X11_statementTold : MOK mX11_statementTold 0 := ⟨xw_X11_statementTold, iw_NineSaintsModel, by decide +kernel, by decide +kernel, by decide⟩
theorem mv_X11_statementTold : MV mX11_statementTold 0 11 := ⟨ok_X11_statementTold, gt_in 1798 (by decide +kernel) (by decide +kernel), gt_in 64 (by decide +kernel) (by decide +kernel), _, rfl, rfl⟩
set_option maxRecDepth 100000 in
theorem xw_X11_staysTo : Cond.code yX11_staysTo cX11_staysTo 3 (some .int) ∈ GT := gt_in 2224 rfl (by decide +kernel)
theorem ok_X11_staysTo : MOK mX11_staysTo 2 := ⟨xw_X11_staysTo, iw_NineSaintsModel, by decide +kernel, by decide +kernel, by decide⟩
theorem mv_X11_staysTo : MV mX11_staysTo 2 11 := ⟨ok_X11_staysTo, gt_in 2223 (by decide +kernel) (by decide +kernel), gt_in 141 (by decide +kernel) (by decide +kernel), _, rfl, rfl⟩
set_option maxRecDepth 100000 in
theorem xw_X11_sumsTold : Cond.code yX11_sumsTold cX11_sumsTold 3 none ∈ GT := gt_in 1894 rfl (by decide +kernel)
theorem ok_X11_sumsTold : MOK mX11_sumsTold 0 := ⟨xw_X11_sumsTold, iw_NineSaintsModel, by decide +kernel, by decide +kernel, by decide⟩
theorem mv_X11_sumsTold : MV mX11_sumsTold 0 11 := ⟨ok_X11_sumsTold, gt_in 1893 (by decide +kernel) (by decide +kernel), gt_in 85 (by decide +kernel) (by decide +kernel), _, rfl, rfl⟩
set_option maxRecDepth 100000 in
theorem xw_X11_sweep : Cond.code yX11_sweep cX11_sweep 3 (some .int) ∈ GT := gt_in 2242 rfl (by decide +kernel)
theorem ok_X11_sweep : MOK mX11_sweep 1 := ⟨xw_X11_sweep, iw_NineSaintsModel, by decide +kernel, by decide +kernel, by decide⟩
theorem mv_X11_sweep : MV mX11_sweep 1 11 := ⟨ok_X11_sweep, gt_in 2240 (by decide +kernel) (by decide +kernel), gt_in 2241 (by decide +kernel) (by decide +kernel), _, rfl, rfl⟩
set_option maxRecDepth 100000 in
theorem xw_X11_take : Cond.code yX11_take cX11_take 2 (some .int) ∈ GT := gt_in 2336 rfl (by decide +kernel)
theorem ok_X11_take : MOK mX11_take 0 := ⟨xw_X11_take, iw_NineSaintsModel, by decide +kernel, by decide +kernel, by decide⟩
theorem mv_X11_take : MV mX11_take 0 11 := ⟨ok_X11_take, gt_in 2334 (by decide +kernel) (by decide +kernel), gt_in 2335 (by decide +kernel) (by decide +kernel), _, rfl, rfl⟩
set_option maxRecDepth 100000 in
theorem xw_X11_takes : Cond.code yX11_takes cX11_takes 2 (some .boolean) ∈ GT := gt_in 1807 rfl (by decide +kernel)
theorem ok_X11_takes : MOK mX11_takes 1 := ⟨xw_X11_takes, iw_NineSaintsModel, by decide +kernel, by decide +kernel, by decide⟩
theorem mv_X11_takes : MV mX11_takes 1 11 := ⟨ok_X11_takes, gt_in 1806 (by decide +kernel) (by decide +kernel), gt_in 66 (by decide +kernel) (by decide +kernel), _, rfl, rfl⟩
set_option maxRecDepth 100000 in
theorem xw_X11_takesSign : Cond.code yX11_takesSign cX11_takesSign 2 (some .boolean) ∈ GT := gt_in 1906 rfl (by decide +kernel)
theorem ok_X11_takesSign : MOK mX11_takesSign 1 := ⟨xw_X11_takesSign, iw_NineSaintsModel, by decide +kernel, by decide +kernel, by decide⟩
theorem mv_X11_takesSign : MV mX11_takesSign 1 11 := ⟨ok_X11_takesSign, gt_in 1905 (by decide +kernel) (by decide +kernel), gt_in 88 (by decide +kernel) (by decide +kernel), _, rfl, rfl⟩
set_option maxRecDepth 100000 in
theorem xw_X11_test : Cond.code yX11_test cX11_test 3 none ∈ GT := gt_in 1878 rfl (by decide +kernel)
theorem ok_X11_test : MOK mX11_test 0 := ⟨xw_X11_test, iw_NineSaintsModel, by decide +kernel, by decide +kernel, by decide⟩
theorem mv_X11_test : MV mX11_test 0 11 := ⟨ok_X11_test, gt_in 1877 (by decide +kernel) (by decide +kernel), gt_in 81 (by decide +kernel) (by decide +kernel), _, rfl, rfl⟩
set_option maxRecDepth 100000 in
theorem xw_X11_together : Cond.code yX11_together cX11_together 2 (some .int) ∈ GT := gt_in 2273 rfl (by decide +kernel)
theorem ok_X11_together : MOK mX11_together 1 := ⟨xw_X11_together, iw_NineSaintsModel, by decide +kernel, by decide +kernel, by decide⟩
theorem mv_X11_together : MV mX11_together 1 11 := ⟨ok_X11_together, gt_in 2271 (by decide +kernel) (by decide +kernel), gt_in 2272 (by decide +kernel) (by decide +kernel), _, rfl, rfl⟩
set_option maxRecDepth 100000 in
theorem xw_X11_treads : Cond.code yX11_treads cX11_treads 7 none ∈ GT := gt_in 2074 rfl (by decide +kernel)
theorem ok_X11_treads : MOK mX11_treads 4 := ⟨xw_X11_treads, iw_NineSaintsModel, by decide +kernel, by decide +kernel, by decide⟩
theorem mv_X11_treads : MV mX11_treads 4 11 := ⟨ok_X11_treads, gt_in 2073 (by decide +kernel) (by decide +kernel), gt_in 120 (by decide +kernel) (by decide +kernel), _, rfl, rfl⟩
set_option maxRecDepth 100000 in
theorem xw_X11_trodden : Cond.code yX11_trodden cX11_trodden 5 (some .int) ∈ GT := gt_in 2246 rfl (by decide +kernel)
theorem ok_X11_trodden : MOK mX11_trodden 0 := ⟨xw_X11_trodden, iw_NineSaintsModel, by decide +kernel, by decide +kernel, by decide⟩
theorem mv_X11_trodden : MV mX11_trodden 0 11 := ⟨ok_X11_trodden, gt_in 2245 (by decide +kernel) (by decide +kernel), gt_in 143 (by decide +kernel) (by decide +kernel), _, rfl, rfl⟩
set_option maxRecDepth 100000 in
theorem xw_X11_turn : Cond.code yX11_turn cX11_turn 6 (some .int) ∈ GT := gt_in 2348 rfl (by decide +kernel)
theorem ok_X11_turn : MOK mX11_turn 0 := ⟨xw_X11_turn, iw_NineSaintsModel, by decide +kernel, by decide +kernel, by decide⟩
theorem mv_X11_turn : MV mX11_turn 0 11 := ⟨ok_X11_turn, gt_in 2346 (by decide +kernel) (by decide +kernel), gt_in 2347 (by decide +kernel) (by decide +kernel), _, rfl, rfl⟩
set_option maxRecDepth 100000 in
theorem xw_X11_undo : Cond.code yX11_undo cX11_undo 2 (some .boolean) ∈ GT := gt_in 2034 rfl (by decide +kernel)
theorem ok_X11_undo : MOK mX11_undo 0 := ⟨xw_X11_undo, iw_NineSaintsModel, by decide +kernel, by decide +kernel, by decide⟩
theorem mv_X11_undo : MV mX11_undo 0 11 := ⟨ok_X11_undo, gt_in 2032 (by decide +kernel) (by decide +kernel), gt_in 2033 (by decide +kernel) (by decide +kernel), _, rfl, rfl⟩
set_option maxRecDepth 100000 in
theorem xw_X11_usedBy : Cond.code yX11_usedBy cX11_usedBy 4 (some .int) ∈ GT := gt_in 2261 rfl (by decide +kernel)
theorem ok_X11_usedBy : MOK mX11_usedBy 1 := ⟨xw_X11_usedBy, iw_NineSaintsModel, by decide +kernel, by decide +kernel, by decide⟩
theorem mv_X11_usedBy : MV mX11_usedBy 1 11 := ⟨ok_X11_usedBy, gt_in 2260 (by decide +kernel) (by decide +kernel), gt_in 145 (by decide +kernel) (by decide +kernel), _, rfl, rfl⟩
set_option maxRecDepth 100000 in
theorem xw_X11_wayBy : Cond.code yX11_wayBy cX11_wayBy 2 (some .int) ∈ GT := gt_in 2300 rfl (by decide +kernel)
theorem ok_X11_wayBy : MOK mX11_wayBy 1 := ⟨xw_X11_wayBy, iw_NineSaintsModel, by decide +kernel, by decide +kernel, by decide⟩
theorem mv_X11_wayBy : MV mX11_wayBy 1 11 := ⟨ok_X11_wayBy, gt_in 2299 (by decide +kernel) (by decide +kernel), gt_in 152 (by decide +kernel) (by decide +kernel), _, rfl, rfl⟩
set_option maxRecDepth 100000 in
theorem xw_X11_wayOf : Cond.code yX11_wayOf cX11_wayOf 2 (some .int) ∈ GT := gt_in 2284 rfl (by decide +kernel)
theorem ok_X11_wayOf : MOK mX11_wayOf 2 := ⟨xw_X11_wayOf, iw_NineSaintsModel, by decide +kernel, by decide +kernel, by decide⟩
theorem ms_X11_wayOf : MS mX11_wayOf 2 := ⟨ok_X11_wayOf, gt_in 2283 (by decide +kernel) (by decide +kernel)⟩
set_option maxRecDepth 100000 in
theorem xw_X11_where : Cond.code yX11_where cX11_where 3 (some .int) ∈ GT := gt_in 2087 rfl (by decide +kernel)
theorem ok_X11_where : MOK mX11_where 2 := ⟨xw_X11_where, iw_NineSaintsModel, by decide +kernel, by decide +kernel, by decide⟩
theorem mv_X11_where : MV mX11_where 2 11 := ⟨ok_X11_where, gt_in 2085 (by decide +kernel) (by decide +kernel), gt_in 2086 (by decide +kernel) (by decide +kernel), _, rfl, rfl⟩
set_option maxRecDepth 100000 in
theorem xw_X11_whereOf : Cond.code yX11_whereOf cX11_whereOf 5 (some .int) ∈ GT := gt_in 2092 rfl (by decide +kernel)
theorem ok_X11_whereOf : MOK mX11_whereOf 2 := ⟨xw_X11_whereOf, iw_NineSaintsModel, by decide +kernel, by decide +kernel, by decide⟩
theorem mv_X11_whereOf : MV mX11_whereOf 2 11 := ⟨ok_X11_whereOf, gt_in 2091 (by decide +kernel) (by decide +kernel), gt_in 121 (by decide +kernel) (by decide +kernel), _, rfl, rfl⟩
set_option maxRecDepth 100000 in
theorem xw_X11_words : Cond.code yX11_words cX11_words 2 (some .int) ∈ GT := gt_in 2196 rfl (by decide +kernel)
theorem ok_X11_words : MOK mX11_words 1 := ⟨xw_X11_words, iw_NineSaintsModel, by decide +kernel, by decide +kernel, by decide⟩
theorem mv_X11_words : MV mX11_words 1 11 := ⟨ok_X11_words, gt_in 2194 (by decide +kernel) (by decide +kernel), gt_in 2195 (by decide +kernel) (by decide +kernel), _, rfl, rfl⟩
set_option maxRecDepth 100000 in
theorem xw_X11_wordsIn : Cond.code yX11_wordsIn cX11_wordsIn 6 (some .int) ∈ GT := gt_in 1946 rfl (by decide +kernel)
theorem ok_X11_wordsIn : MOK mX11_wordsIn 2 := ⟨xw_X11_wordsIn, iw_NineSaintsModel, by decide +kernel, by decide +kernel, by decide⟩
theorem mv_X11_wordsIn : MV mX11_wordsIn 2 11 := ⟨ok_X11_wordsIn, gt_in 1945 (by decide +kernel) (by decide +kernel), gt_in 98 (by decide +kernel) (by decide +kernel), _, rfl, rfl⟩
set_option maxRecDepth 100000 in
theorem xw_X11_wordsOf : Cond.code yX11_wordsOf cX11_wordsOf 4 (some .int) ∈ GT := gt_in 2204 rfl (by decide +kernel)
theorem ok_X11_wordsOf : MOK mX11_wordsOf 1 := ⟨xw_X11_wordsOf, iw_NineSaintsModel, by decide +kernel, by decide +kernel, by decide⟩
theorem mv_X11_wordsOf : MV mX11_wordsOf 1 11 := ⟨ok_X11_wordsOf, gt_in 2203 (by decide +kernel) (by decide +kernel), gt_in 136 (by decide +kernel) (by decide +kernel), _, rfl, rfl⟩
set_option maxRecDepth 100000 in
theorem xw_X11_writes : Cond.code yX11_writes cX11_writes 2 none ∈ GT := gt_in 2389 rfl (by decide +kernel)
theorem ok_X11_writes : MOK mX11_writes 1 := ⟨xw_X11_writes, iw_NineSaintsModel, by decide +kernel, by decide +kernel, by decide⟩
theorem mv_X11_writes : MV mX11_writes 1 11 := ⟨ok_X11_writes, gt_in 2388 (by decide +kernel) (by decide +kernel), gt_in 167 (by decide +kernel) (by decide +kernel), _, rfl, rfl⟩
set_option maxRecDepth 100000 in
theorem xw_J6_bitCount_0f7a4 : Cond.code yJ6_bitCount_0f7a4 cJ6_bitCount_0f7a4 1 (some .int) ∈ GT := gt_in 994 rfl (by decide +kernel)
theorem ok_J6_bitCount_0f7a4 : MOK mJ6_bitCount_0f7a4 1 := ⟨xw_J6_bitCount_0f7a4, iw_java_lang_Integer, by decide +kernel, by decide +kernel, by decide⟩
theorem ms_J6_bitCount_0f7a4 : MS mJ6_bitCount_0f7a4 1 := ⟨ok_J6_bitCount_0f7a4, gt_in 993 (by decide +kernel) (by decide +kernel)⟩
set_option maxRecDepth 100000 in
theorem xw_J6_numberOfTrailingZeros_0f7a4 : Cond.code yJ6_numberOfTrailingZeros_0f7a4 cJ6_numberOfTrailingZeros_0f7a4 2 (some .int) ∈ GT := gt_in 1194 rfl (by decide +kernel)
theorem ok_J6_numberOfTrailingZeros_0f7a4 : MOK mJ6_numberOfTrailingZeros_0f7a4 1 := ⟨xw_J6_numberOfTrailingZeros_0f7a4, iw_java_lang_Integer, by decide +kernel, by decide +kernel, by decide⟩
theorem ms_J6_numberOfTrailingZeros_0f7a4 : MS mJ6_numberOfTrailingZeros_0f7a4 1 := ⟨ok_J6_numberOfTrailingZeros_0f7a4, gt_in 1193 (by decide +kernel) (by decide +kernel)⟩
set_option maxRecDepth 100000 in
theorem xw_J7_fill_53178 : Cond.code yJ7_fill_53178 cJ7_fill_53178 4 none ∈ GT := gt_in 694 rfl (by decide +kernel)
theorem ok_J7_fill_53178 : MOK mJ7_fill_53178 2 := ⟨xw_J7_fill_53178, iw_java_util_Arrays, by decide +kernel, by decide +kernel, by decide⟩
theorem ms_J7_fill_53178 : MS mJ7_fill_53178 2 := ⟨ok_J7_fill_53178, gt_in 693 (by decide +kernel) (by decide +kernel)⟩
set_option maxRecDepth 100000 in
theorem xw_J7_fill_d0a16 : Cond.code yJ7_fill_d0a16 cJ7_fill_d0a16 5 none ∈ GT := gt_in 1322 rfl (by decide +kernel)
theorem ok_J7_fill_d0a16 : MOK mJ7_fill_d0a16 2 := ⟨xw_J7_fill_d0a16, iw_java_util_Arrays, by decide +kernel, by decide +kernel, by decide⟩
theorem ms_J7_fill_d0a16 : MS mJ7_fill_d0a16 2 := ⟨ok_J7_fill_d0a16, gt_in 1321 (by decide +kernel) (by decide +kernel)⟩
set_option maxRecDepth 100000 in
theorem xw_J13_numberOfTrailingZeros_95d88 : Cond.code yJ13_numberOfTrailingZeros_95d88 cJ13_numberOfTrailingZeros_95d88 3 (some .int) ∈ GT := gt_in 1191 rfl (by decide +kernel)
theorem ok_J13_numberOfTrailingZeros_95d88 : MOK mJ13_numberOfTrailingZeros_95d88 1 := ⟨xw_J13_numberOfTrailingZeros_95d88, iw_java_lang_Long, by decide +kernel, by decide +kernel, by decide⟩
theorem ms_J13_numberOfTrailingZeros_95d88 : MS mJ13_numberOfTrailingZeros_95d88 1 := ⟨ok_J13_numberOfTrailingZeros_95d88, gt_in 1190 (by decide +kernel) (by decide +kernel)⟩
