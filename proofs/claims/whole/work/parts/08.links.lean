theorem nh0 : "StampsCancel" ≠ "java/lang/invoke/MethodHandle" ∧ "StampsCancel" ≠ "java/lang/invoke/VarHandle" := by decide +kernel
set_option maxRecDepth 20000 in
theorem wi0 : Cond.initialized "StampsCancel" ∈ tbG := tbk1 1 rfl rfl
theorem nh1 : "StampsCancel$Distances" ≠ "java/lang/invoke/MethodHandle" ∧ "StampsCancel$Distances" ≠ "java/lang/invoke/VarHandle" := by decide +kernel
set_option maxRecDepth 20000 in
theorem wi1 : Cond.initialized "StampsCancel$Distances" ∈ tbG := tbk1 6 rfl rfl
theorem nh2 : "StampsCancel$Errands" ≠ "java/lang/invoke/MethodHandle" ∧ "StampsCancel$Errands" ≠ "java/lang/invoke/VarHandle" := by decide +kernel
set_option maxRecDepth 20000 in
theorem wi2 : Cond.initialized "StampsCancel$Errands" ∈ tbG := tbk1 7 rfl rfl
theorem nh3 : "StampsCancel$Judge" ≠ "java/lang/invoke/MethodHandle" ∧ "StampsCancel$Judge" ≠ "java/lang/invoke/VarHandle" := by decide +kernel
set_option maxRecDepth 20000 in
theorem wi3 : Cond.initialized "StampsCancel$Judge" ∈ tbG := tbk1 4 rfl rfl
theorem nh4 : "StampsCancel$Land" ≠ "java/lang/invoke/MethodHandle" ∧ "StampsCancel$Land" ≠ "java/lang/invoke/VarHandle" := by decide +kernel
set_option maxRecDepth 20000 in
theorem wi4 : Cond.initialized "StampsCancel$Land" ∈ tbG := tbk1 2 rfl rfl
theorem nh5 : "StampsCancel$Listing" ≠ "java/lang/invoke/MethodHandle" ∧ "StampsCancel$Listing" ≠ "java/lang/invoke/VarHandle" := by decide +kernel
set_option maxRecDepth 20000 in
theorem wi5 : Cond.initialized "StampsCancel$Listing" ∈ tbG := tbk1 9 rfl rfl
theorem nh6 : "StampsCancel$Paper" ≠ "java/lang/invoke/MethodHandle" ∧ "StampsCancel$Paper" ≠ "java/lang/invoke/VarHandle" := by decide +kernel
set_option maxRecDepth 20000 in
theorem wi6 : Cond.initialized "StampsCancel$Paper" ∈ tbG := tbk1 3 rfl rfl
theorem nh7 : "StampsCancel$Route" ≠ "java/lang/invoke/MethodHandle" ∧ "StampsCancel$Route" ≠ "java/lang/invoke/VarHandle" := by decide +kernel
set_option maxRecDepth 20000 in
theorem wi7 : Cond.initialized "StampsCancel$Route" ∈ tbG := tbk1 5 rfl rfl
theorem nh8 : "StampsCancel$Sheets" ≠ "java/lang/invoke/MethodHandle" ∧ "StampsCancel$Sheets" ≠ "java/lang/invoke/VarHandle" := by decide +kernel
set_option maxRecDepth 20000 in
theorem wi8 : Cond.initialized "StampsCancel$Sheets" ∈ tbG := tbk1 10 rfl rfl
theorem nh9 : "StampsCancel$Text" ≠ "java/lang/invoke/MethodHandle" ∧ "StampsCancel$Text" ≠ "java/lang/invoke/VarHandle" := by decide +kernel
set_option maxRecDepth 20000 in
theorem wi9 : Cond.initialized "StampsCancel$Text" ∈ tbG := tbk1 12 rfl rfl
theorem nh10 : "StampsCancel$Walks" ≠ "java/lang/invoke/MethodHandle" ∧ "StampsCancel$Walks" ≠ "java/lang/invoke/VarHandle" := by decide +kernel
set_option maxRecDepth 20000 in
theorem wi10 : Cond.initialized "StampsCancel$Walks" ∈ tbG := tbk1 8 rfl rfl
theorem nh11 : "StampsCancelLaw" ≠ "java/lang/invoke/MethodHandle" ∧ "StampsCancelLaw" ≠ "java/lang/invoke/VarHandle" := by decide +kernel
set_option maxRecDepth 20000 in
theorem wi11 : Cond.initialized "StampsCancelLaw" ∈ tbG := tbk1 0 rfl rfl
theorem nh12 : "StampsCancelModel" ≠ "java/lang/invoke/MethodHandle" ∧ "StampsCancelModel" ≠ "java/lang/invoke/VarHandle" := by decide +kernel
set_option maxRecDepth 20000 in
theorem wi12 : Cond.initialized "StampsCancelModel" ∈ tbG := tbk1 14 rfl rfl
theorem nh13 : "java/lang/Integer" ≠ "java/lang/invoke/MethodHandle" ∧ "java/lang/Integer" ≠ "java/lang/invoke/VarHandle" := by decide +kernel
set_option maxRecDepth 20000 in
theorem wi13 : Cond.initialized "java/lang/Integer" ∈ tbG := tbk1 16 rfl rfl
theorem nh14 : "java/lang/Math" ≠ "java/lang/invoke/MethodHandle" ∧ "java/lang/Math" ≠ "java/lang/invoke/VarHandle" := by decide +kernel
set_option maxRecDepth 20000 in
theorem wi14 : Cond.initialized "java/lang/Math" ∈ tbG := tbk1 13 rfl rfl
theorem nh15 : "java/lang/System" ≠ "java/lang/invoke/MethodHandle" ∧ "java/lang/System" ≠ "java/lang/invoke/VarHandle" := by decide +kernel
set_option maxRecDepth 20000 in
theorem wi15 : Cond.initialized "java/lang/System" ∈ tbG := tbk1 15 rfl rfl
theorem nh16 : "java/util/Arrays" ≠ "java/lang/invoke/MethodHandle" ∧ "java/util/Arrays" ≠ "java/lang/invoke/VarHandle" := by decide +kernel
set_option maxRecDepth 20000 in
theorem wi16 : Cond.initialized "java/util/Arrays" ∈ tbG := tbk1 11 rfl rfl
set_option maxRecDepth 20000 in
theorem wcJ7_fill_53178 : Cond.code MJ7_fill_53178.1 MJ7_fill_53178.2.1 MJ7_fill_53178.2.2.1 MJ7_fill_53178.2.2.2.1 ∈ tbG := tbk1 223 rfl rfl
set_option maxRecDepth 20000 in
theorem wsJ7_fill_53178 : Cond.static yJ7_fill_53178 ∈ tbG := tbk1 222 rfl rfl
set_option maxRecDepth 20000 in
theorem wcX3_gatesTold : Cond.code MX3_gatesTold.1 MX3_gatesTold.2.1 MX3_gatesTold.2.2.1 MX3_gatesTold.2.2.2.1 ∈ tbG := tbk3 64 rfl rfl
set_option maxRecDepth 20000 in
theorem wnX3_gatesTold : Cond.instanceMethod yX3_gatesTold ∈ tbG := tbk3 62 rfl rfl
set_option maxRecDepth 20000 in
theorem weX3_gatesTold : Cond.selects RX3 yX3_gatesTold yX3_gatesTold ∈ tbG := tbk3 63 rfl rfl
set_option maxRecDepth 20000 in
theorem wcX3_from : Cond.code MX3_from.1 MX3_from.2.1 MX3_from.2.2.1 MX3_from.2.2.2.1 ∈ tbG := tbk2 142 rfl rfl
set_option maxRecDepth 20000 in
theorem wnX3_from : Cond.instanceMethod yX3_from ∈ tbG := tbk2 140 rfl rfl
set_option maxRecDepth 20000 in
theorem weX3_from : Cond.selects RX3 yX3_from yX3_from ∈ tbG := tbk2 141 rfl rfl
set_option maxRecDepth 20000 in
theorem wcX3_to : Cond.code MX3_to.1 MX3_to.2.1 MX3_to.2.2.1 MX3_to.2.2.2.1 ∈ tbG := tbk2 146 rfl rfl
set_option maxRecDepth 20000 in
theorem wnX3_to : Cond.instanceMethod yX3_to ∈ tbG := tbk2 144 rfl rfl
set_option maxRecDepth 20000 in
theorem weX3_to : Cond.selects RX3 yX3_to yX3_to ∈ tbG := tbk2 145 rfl rfl
set_option maxRecDepth 20000 in
theorem wcX0_link : Cond.code MX0_link.1 MX0_link.2.1 MX0_link.2.2.1 MX0_link.2.2.2.1 ∈ tbG := tbk3 70 rfl rfl
set_option maxRecDepth 20000 in
theorem wnX0_link : Cond.instanceMethod yX0_link ∈ tbG := tbk3 69 rfl rfl
theorem weX0_link : Cond.selects RX0 yX0_link yX0_link ∈ tbG := tb_ps 12 (by decide +kernel) rfl
set_option maxRecDepth 20000 in
theorem wcX0_layOut : Cond.code MX0_layOut.1 MX0_layOut.2.1 MX0_layOut.2.2.1 MX0_layOut.2.2.2.1 ∈ tbG := tbk3 59 rfl rfl
set_option maxRecDepth 20000 in
theorem wnX0_layOut : Cond.instanceMethod yX0_layOut ∈ tbG := tbk3 58 rfl rfl
theorem weX0_layOut : Cond.selects RX0 yX0_layOut yX0_layOut ∈ tbG := tb_ps 11 (by decide +kernel) rfl
set_option maxRecDepth 20000 in
theorem wcX0_spread : Cond.code MX0_spread.1 MX0_spread.2.1 MX0_spread.2.2.1 MX0_spread.2.2.2.1 ∈ tbG := tbk3 74 rfl rfl
set_option maxRecDepth 20000 in
theorem wnX0_spread : Cond.instanceMethod yX0_spread ∈ tbG := tbk3 73 rfl rfl
theorem weX0_spread : Cond.selects RX0 yX0_spread yX0_spread ∈ tbG := tb_ps 13 (by decide +kernel) rfl
set_option maxRecDepth 20000 in
theorem wcX0_measure : Cond.code MX0_measure.1 MX0_measure.2.1 MX0_measure.2.2.1 MX0_measure.2.2.2.1 ∈ tbG := tbk3 55 rfl rfl
set_option maxRecDepth 20000 in
theorem wnX0_measure : Cond.instanceMethod yX0_measure ∈ tbG := tbk3 53 rfl rfl
set_option maxRecDepth 20000 in
theorem weX0_measure : Cond.selects RX0 yX0_measure yX0_measure ∈ tbG := tbk3 54 rfl rfl
set_option maxRecDepth 20000 in
theorem wcX0_measureLinked : Cond.code MX0_measureLinked.1 MX0_measureLinked.2.1 MX0_measureLinked.2.2.1 MX0_measureLinked.2.2.2.1 ∈ tbG := tbk4 186 rfl rfl
set_option maxRecDepth 20000 in
theorem wnX0_measureLinked : Cond.instanceMethod yX0_measureLinked ∈ tbG := tbk4 184 rfl rfl
set_option maxRecDepth 20000 in
theorem weX0_measureLinked : Cond.selects RX0 yX0_measureLinked yX0_measureLinked ∈ tbG := tbk4 185 rfl rfl
set_option maxRecDepth 20000 in
theorem wcX10_isTown : Cond.code MX10_isTown.1 MX10_isTown.2.1 MX10_isTown.2.2.1 MX10_isTown.2.2.2.1 ∈ tbG := tbk2 211 rfl rfl
set_option maxRecDepth 20000 in
theorem wsX10_isTown : Cond.static yX10_isTown ∈ tbG := tbk2 210 rfl rfl
set_option maxRecDepth 20000 in
theorem wcX0_measureFrom : Cond.code MX0_measureFrom.1 MX0_measureFrom.2.1 MX0_measureFrom.2.2.1 MX0_measureFrom.2.2.2.1 ∈ tbG := tbk4 160 rfl rfl
set_option maxRecDepth 20000 in
theorem wnX0_measureFrom : Cond.instanceMethod yX0_measureFrom ∈ tbG := tbk4 158 rfl rfl
set_option maxRecDepth 20000 in
theorem weX0_measureFrom : Cond.selects RX0 yX0_measureFrom yX0_measureFrom ∈ tbG := tbk4 159 rfl rfl
set_option maxRecDepth 20000 in
theorem wcX0_between : Cond.code MX0_between.1 MX0_between.2.1 MX0_between.2.2.1 MX0_between.2.2.2.1 ∈ tbG := tbk3 103 rfl rfl
set_option maxRecDepth 20000 in
theorem wnX0_between : Cond.instanceMethod yX0_between ∈ tbG := tbk3 101 rfl rfl
set_option maxRecDepth 20000 in
theorem weX0_between : Cond.selects RX0 yX0_between yX0_between ∈ tbG := tbk3 102 rfl rfl
set_option maxRecDepth 20000 in
theorem wcX0_reachedFrom : Cond.code MX0_reachedFrom.1 MX0_reachedFrom.2.1 MX0_reachedFrom.2.2.1 MX0_reachedFrom.2.2.2.1 ∈ tbG := tbk3 213 rfl rfl
set_option maxRecDepth 20000 in
theorem wnX0_reachedFrom : Cond.instanceMethod yX0_reachedFrom ∈ tbG := tbk3 211 rfl rfl
set_option maxRecDepth 20000 in
theorem weX0_reachedFrom : Cond.selects RX0 yX0_reachedFrom yX0_reachedFrom ∈ tbG := tbk3 212 rfl rfl
set_option maxRecDepth 20000 in
theorem wcX0_pairsUnlike : Cond.code MX0_pairsUnlike.1 MX0_pairsUnlike.2.1 MX0_pairsUnlike.2.2.1 MX0_pairsUnlike.2.2.2.1 ∈ tbG := tbk4 170 rfl rfl
set_option maxRecDepth 20000 in
theorem wnX0_pairsUnlike : Cond.instanceMethod yX0_pairsUnlike ∈ tbG := tbk4 168 rfl rfl
set_option maxRecDepth 20000 in
theorem weX0_pairsUnlike : Cond.selects RX0 yX0_pairsUnlike yX0_pairsUnlike ∈ tbG := tbk4 169 rfl rfl
set_option maxRecDepth 20000 in
theorem wcJ9_abs_0f7a4 : Cond.code MJ9_abs_0f7a4.1 MJ9_abs_0f7a4.2.1 MJ9_abs_0f7a4.2.2.1 MJ9_abs_0f7a4.2.2.2.1 ∈ tbG := tbk4 177 rfl rfl
set_option maxRecDepth 20000 in
theorem wsJ9_abs_0f7a4 : Cond.static yJ9_abs_0f7a4 ∈ tbG := tbk4 176 rfl rfl
set_option maxRecDepth 20000 in
theorem wcJ9_max_7cf53 : Cond.code MJ9_max_7cf53.1 MJ9_max_7cf53.2.1 MJ9_max_7cf53.2.2.1 MJ9_max_7cf53.2.2.2.1 ∈ tbG := tbk3 12 rfl rfl
set_option maxRecDepth 20000 in
theorem wsJ9_max_7cf53 : Cond.static yJ9_max_7cf53 ∈ tbG := tbk3 11 rfl rfl
set_option maxRecDepth 20000 in
theorem wcX0_mostUnlike : Cond.code MX0_mostUnlike.1 MX0_mostUnlike.2.1 MX0_mostUnlike.2.2.1 MX0_mostUnlike.2.2.2.1 ∈ tbG := tbk4 174 rfl rfl
set_option maxRecDepth 20000 in
theorem wnX0_mostUnlike : Cond.instanceMethod yX0_mostUnlike ∈ tbG := tbk4 172 rfl rfl
set_option maxRecDepth 20000 in
theorem weX0_mostUnlike : Cond.selects RX0 yX0_mostUnlike yX0_mostUnlike ∈ tbG := tbk4 173 rfl rfl
set_option maxRecDepth 20000 in
theorem wcX3_openLanes : Cond.code MX3_openLanes.1 MX3_openLanes.2.1 MX3_openLanes.2.2.1 MX3_openLanes.2.2.2.1 ∈ tbG := tbk3 51 rfl rfl
set_option maxRecDepth 20000 in
theorem wnX3_openLanes : Cond.instanceMethod yX3_openLanes ∈ tbG := tbk3 49 rfl rfl
set_option maxRecDepth 20000 in
theorem weX3_openLanes : Cond.selects RX3 yX3_openLanes yX3_openLanes ∈ tbG := tbk3 50 rfl rfl
set_option maxRecDepth 20000 in
theorem wcX1_setOut : Cond.code MX1_setOut.1 MX1_setOut.2.1 MX1_setOut.2.2.1 MX1_setOut.2.2.2.1 ∈ tbG := tbk3 161 rfl rfl
set_option maxRecDepth 20000 in
theorem wnX1_setOut : Cond.instanceMethod yX1_setOut ∈ tbG := tbk3 160 rfl rfl
theorem weX1_setOut : Cond.selects RX1 yX1_setOut yX1_setOut ∈ tbG := tb_ps 23 (by decide +kernel) rfl
set_option maxRecDepth 20000 in
theorem wcX3_roomTold : Cond.code MX3_roomTold.1 MX3_roomTold.2.1 MX3_roomTold.2.2.1 MX3_roomTold.2.2.2.1 ∈ tbG := tbk2 162 rfl rfl
set_option maxRecDepth 20000 in
theorem wnX3_roomTold : Cond.instanceMethod yX3_roomTold ∈ tbG := tbk2 160 rfl rfl
set_option maxRecDepth 20000 in
theorem weX3_roomTold : Cond.selects RX3 yX3_roomTold yX3_roomTold ∈ tbG := tbk2 161 rfl rfl
set_option maxRecDepth 20000 in
theorem wcX1_reached : Cond.code MX1_reached.1 MX1_reached.2.1 MX1_reached.2.2.1 MX1_reached.2.2.2.1 ∈ tbG := tbk3 169 rfl rfl
set_option maxRecDepth 20000 in
theorem wnX1_reached : Cond.instanceMethod yX1_reached ∈ tbG := tbk3 168 rfl rfl
theorem weX1_reached : Cond.selects RX1 yX1_reached yX1_reached ∈ tbG := tb_ps 24 (by decide +kernel) rfl
set_option maxRecDepth 20000 in
theorem wcX3_letters : Cond.code MX3_letters.1 MX3_letters.2.1 MX3_letters.2.2.1 MX3_letters.2.2.2.1 ∈ tbG := tbk3 125 rfl rfl
set_option maxRecDepth 20000 in
theorem wnX3_letters : Cond.instanceMethod yX3_letters ∈ tbG := tbk3 123 rfl rfl
set_option maxRecDepth 20000 in
theorem weX3_letters : Cond.selects RX3 yX3_letters yX3_letters ∈ tbG := tbk3 124 rfl rfl
set_option maxRecDepth 20000 in
theorem wcX3_isOpen : Cond.code MX3_isOpen.1 MX3_isOpen.2.1 MX3_isOpen.2.2.1 MX3_isOpen.2.2.2.1 ∈ tbG := tbk2 154 rfl rfl
set_option maxRecDepth 20000 in
theorem wnX3_isOpen : Cond.instanceMethod yX3_isOpen ∈ tbG := tbk2 152 rfl rfl
set_option maxRecDepth 20000 in
theorem weX3_isOpen : Cond.selects RX3 yX3_isOpen yX3_isOpen ∈ tbG := tbk2 153 rfl rfl
set_option maxRecDepth 20000 in
theorem wcX3_isWatched : Cond.code MX3_isWatched.1 MX3_isWatched.2.1 MX3_isWatched.2.2.1 MX3_isWatched.2.2.2.1 ∈ tbG := tbk2 150 rfl rfl
set_option maxRecDepth 20000 in
theorem wnX3_isWatched : Cond.instanceMethod yX3_isWatched ∈ tbG := tbk2 148 rfl rfl
set_option maxRecDepth 20000 in
theorem weX3_isWatched : Cond.selects RX3 yX3_isWatched yX3_isWatched ∈ tbG := tbk2 149 rfl rfl
set_option maxRecDepth 20000 in
theorem wcJ9_min_7cf53 : Cond.code MJ9_min_7cf53.1 MJ9_min_7cf53.2.1 MJ9_min_7cf53.2.2.1 MJ9_min_7cf53.2.2.2.1 ∈ tbG := tbk2 4 rfl rfl
set_option maxRecDepth 20000 in
theorem wsJ9_min_7cf53 : Cond.static yJ9_min_7cf53 ∈ tbG := tbk2 3 rfl rfl
set_option maxRecDepth 20000 in
theorem wcX1_comeNearer : Cond.code MX1_comeNearer.1 MX1_comeNearer.2.1 MX1_comeNearer.2.2.1 MX1_comeNearer.2.2.2.1 ∈ tbG := tbk3 183 rfl rfl
set_option maxRecDepth 20000 in
theorem wnX1_comeNearer : Cond.instanceMethod yX1_comeNearer ∈ tbG := tbk3 182 rfl rfl
theorem weX1_comeNearer : Cond.selects RX1 yX1_comeNearer yX1_comeNearer ∈ tbG := tb_ps 26 (by decide +kernel) rfl
set_option maxRecDepth 20000 in
theorem wcX1_allowOneMore : Cond.code MX1_allowOneMore.1 MX1_allowOneMore.2.1 MX1_allowOneMore.2.2.1 MX1_allowOneMore.2.2.2.1 ∈ tbG := tbk3 173 rfl rfl
set_option maxRecDepth 20000 in
theorem wnX1_allowOneMore : Cond.instanceMethod yX1_allowOneMore ∈ tbG := tbk3 172 rfl rfl
theorem weX1_allowOneMore : Cond.selects RX1 yX1_allowOneMore yX1_allowOneMore ∈ tbG := tb_ps 25 (by decide +kernel) rfl
set_option maxRecDepth 20000 in
theorem wcX1_fullest : Cond.code MX1_fullest.1 MX1_fullest.2.1 MX1_fullest.2.2.1 MX1_fullest.2.2.2.1 ∈ tbG := tbk3 157 rfl rfl
set_option maxRecDepth 20000 in
theorem wnX1_fullest : Cond.instanceMethod yX1_fullest ∈ tbG := tbk3 155 rfl rfl
set_option maxRecDepth 20000 in
theorem weX1_fullest : Cond.selects RX1 yX1_fullest yX1_fullest ∈ tbG := tbk3 156 rfl rfl
set_option maxRecDepth 20000 in
theorem wcX1_homely : Cond.code MX1_homely.1 MX1_homely.2.1 MX1_homely.2.2.1 MX1_homely.2.2.2.1 ∈ tbG := tbk3 196 rfl rfl
set_option maxRecDepth 20000 in
theorem wnX1_homely : Cond.instanceMethod yX1_homely ∈ tbG := tbk3 194 rfl rfl
set_option maxRecDepth 20000 in
theorem weX1_homely : Cond.selects RX1 yX1_homely yX1_homely ∈ tbG := tbk3 195 rfl rfl
set_option maxRecDepth 20000 in
theorem wcX1_stepsTo : Cond.code MX1_stepsTo.1 MX1_stepsTo.2.1 MX1_stepsTo.2.2.1 MX1_stepsTo.2.2.2.1 ∈ tbG := tbk3 188 rfl rfl
set_option maxRecDepth 20000 in
theorem wnX1_stepsTo : Cond.instanceMethod yX1_stepsTo ∈ tbG := tbk3 186 rfl rfl
set_option maxRecDepth 20000 in
theorem weX1_stepsTo : Cond.selects RX1 yX1_stepsTo yX1_stepsTo ∈ tbG := tbk3 187 rfl rfl
set_option maxRecDepth 20000 in
theorem wcX2_onPaper : Cond.code MX2_onPaper.1 MX2_onPaper.2.1 MX2_onPaper.2.2.1 MX2_onPaper.2.2.2.1 ∈ tbG := tbk2 222 rfl rfl
set_option maxRecDepth 20000 in
theorem wnX2_onPaper : Cond.instanceMethod yX2_onPaper ∈ tbG := tbk2 220 rfl rfl
set_option maxRecDepth 20000 in
theorem weX2_onPaper : Cond.selects RX2 yX2_onPaper yX2_onPaper ∈ tbG := tbk2 221 rfl rfl
set_option maxRecDepth 20000 in
theorem wcX5_size : Cond.code MX5_size.1 MX5_size.2.1 MX5_size.2.2.1 MX5_size.2.2.2.1 ∈ tbG := tbk2 197 rfl rfl
set_option maxRecDepth 20000 in
theorem wnX5_size : Cond.instanceMethod yX5_size ∈ tbG := tbk2 195 rfl rfl
set_option maxRecDepth 20000 in
theorem weX5_size : Cond.selects RX5 yX5_size yX5_size ∈ tbG := tbk2 196 rfl rfl
set_option maxRecDepth 20000 in
theorem wcX2_begin : Cond.code MX2_begin.1 MX2_begin.2.1 MX2_begin.2.2.1 MX2_begin.2.2.2.1 ∈ tbG := tbk2 226 rfl rfl
set_option maxRecDepth 20000 in
theorem wnX2_begin : Cond.instanceMethod yX2_begin ∈ tbG := tbk2 224 rfl rfl
set_option maxRecDepth 20000 in
theorem weX2_begin : Cond.selects RX2 yX2_begin yX2_begin ∈ tbG := tbk2 225 rfl rfl
set_option maxRecDepth 20000 in
theorem wcX8_size : Cond.code MX8_size.1 MX8_size.2.1 MX8_size.2.2.1 MX8_size.2.2.2.1 ∈ tbG := tbk2 82 rfl rfl
set_option maxRecDepth 20000 in
theorem wnX8_size : Cond.instanceMethod yX8_size ∈ tbG := tbk2 80 rfl rfl
set_option maxRecDepth 20000 in
theorem weX8_size : Cond.selects RX8 yX8_size yX8_size ∈ tbG := tbk2 81 rfl rfl
set_option maxRecDepth 20000 in
theorem wcX8_at : Cond.code MX8_at.1 MX8_at.2.1 MX8_at.2.2.1 MX8_at.2.2.2.1 ∈ tbG := tbk2 90 rfl rfl
set_option maxRecDepth 20000 in
theorem wnX8_at : Cond.instanceMethod yX8_at ∈ tbG := tbk2 88 rfl rfl
set_option maxRecDepth 20000 in
theorem weX8_at : Cond.selects RX8 yX8_at yX8_at ∈ tbG := tbk2 89 rfl rfl
set_option maxRecDepth 20000 in
theorem wcX3_letterOf : Cond.code MX3_letterOf.1 MX3_letterOf.2.1 MX3_letterOf.2.2.1 MX3_letterOf.2.2.2.1 ∈ tbG := tbk2 130 rfl rfl
set_option maxRecDepth 20000 in
theorem wnX3_letterOf : Cond.instanceMethod yX3_letterOf ∈ tbG := tbk2 128 rfl rfl
set_option maxRecDepth 20000 in
theorem weX3_letterOf : Cond.selects RX3 yX3_letterOf yX3_letterOf ∈ tbG := tbk2 129 rfl rfl
set_option maxRecDepth 20000 in
theorem wcX5_strikes : Cond.code MX5_strikes.1 MX5_strikes.2.1 MX5_strikes.2.2.1 MX5_strikes.2.2.2.1 ∈ tbG := tbk2 193 rfl rfl
set_option maxRecDepth 20000 in
theorem wnX5_strikes : Cond.instanceMethod yX5_strikes ∈ tbG := tbk2 191 rfl rfl
set_option maxRecDepth 20000 in
theorem weX5_strikes : Cond.selects RX5 yX5_strikes yX5_strikes ∈ tbG := tbk2 192 rfl rfl
set_option maxRecDepth 20000 in
theorem wcX2_mayPass : Cond.code MX2_mayPass.1 MX2_mayPass.2.1 MX2_mayPass.2.2.1 MX2_mayPass.2.2.2.1 ∈ tbG := tbk2 238 rfl rfl
set_option maxRecDepth 20000 in
theorem wnX2_mayPass : Cond.instanceMethod yX2_mayPass ∈ tbG := tbk2 237 rfl rfl
theorem weX2_mayPass : Cond.selects RX2 yX2_mayPass yX2_mayPass ∈ tbG := tb_ps 8 (by decide +kernel) rfl
set_option maxRecDepth 20000 in
theorem wcX5_stamp : Cond.code MX5_stamp.1 MX5_stamp.2.1 MX5_stamp.2.2.1 MX5_stamp.2.2.2.1 ∈ tbG := tbk2 189 rfl rfl
set_option maxRecDepth 20000 in
theorem wnX5_stamp : Cond.instanceMethod yX5_stamp ∈ tbG := tbk2 187 rfl rfl
set_option maxRecDepth 20000 in
theorem weX5_stamp : Cond.selects RX5 yX5_stamp yX5_stamp ∈ tbG := tbk2 188 rfl rfl
set_option maxRecDepth 20000 in
theorem wcX2_pass : Cond.code MX2_pass.1 MX2_pass.2.1 MX2_pass.2.2.1 MX2_pass.2.2.2.1 ∈ tbG := tbk3 7 rfl rfl
set_option maxRecDepth 20000 in
theorem wnX2_pass : Cond.instanceMethod yX2_pass ∈ tbG := tbk3 6 rfl rfl
theorem weX2_pass : Cond.selects RX2 yX2_pass yX2_pass ∈ tbG := tb_ps 9 (by decide +kernel) rfl
set_option maxRecDepth 20000 in
theorem wcX2_follow : Cond.code MX2_follow.1 MX2_follow.2.1 MX2_follow.2.2.1 MX2_follow.2.2.2.1 ∈ tbG := tbk2 231 rfl rfl
set_option maxRecDepth 20000 in
theorem wnX2_follow : Cond.instanceMethod yX2_follow ∈ tbG := tbk2 229 rfl rfl
set_option maxRecDepth 20000 in
theorem weX2_follow : Cond.selects RX2 yX2_follow yX2_follow ∈ tbG := tbk2 230 rfl rfl
set_option maxRecDepth 20000 in
theorem wcX2_verdict : Cond.code MX2_verdict.1 MX2_verdict.2.1 MX2_verdict.2.2.1 MX2_verdict.2.2.2.1 ∈ tbG := tbk3 16 rfl rfl
set_option maxRecDepth 20000 in
theorem wnX2_verdict : Cond.instanceMethod yX2_verdict ∈ tbG := tbk3 14 rfl rfl
set_option maxRecDepth 20000 in
theorem weX2_verdict : Cond.selects RX2 yX2_verdict yX2_verdict ∈ tbG := tbk3 15 rfl rfl
set_option maxRecDepth 20000 in
theorem wcX3_forget : Cond.code MX3_forget.1 MX3_forget.2.1 MX3_forget.2.2.1 MX3_forget.2.2.2.1 ∈ tbG := tbk2 78 rfl rfl
set_option maxRecDepth 20000 in
theorem wnX3_forget : Cond.instanceMethod yX3_forget ∈ tbG := tbk2 77 rfl rfl
theorem weX3_forget : Cond.selects RX3 yX3_forget yX3_forget ∈ tbG := tb_ps 1 (by decide +kernel) rfl
set_option maxRecDepth 20000 in
theorem wcX3_isFigure : Cond.code MX3_isFigure.1 MX3_isFigure.2.1 MX3_isFigure.2.2.1 MX3_isFigure.2.2.2.1 ∈ tbG := tbk2 97 rfl rfl
set_option maxRecDepth 20000 in
theorem wsX3_isFigure : Cond.static yX3_isFigure ∈ tbG := tbk2 96 rfl rfl
set_option maxRecDepth 20000 in
theorem wcX3_takeRoom : Cond.code MX3_takeRoom.1 MX3_takeRoom.2.1 MX3_takeRoom.2.2.1 MX3_takeRoom.2.2.2.1 ∈ tbG := tbk2 94 rfl rfl
set_option maxRecDepth 20000 in
theorem wnX3_takeRoom : Cond.instanceMethod yX3_takeRoom ∈ tbG := tbk2 93 rfl rfl
theorem weX3_takeRoom : Cond.selects RX3 yX3_takeRoom yX3_takeRoom ∈ tbG := tb_ps 3 (by decide +kernel) rfl
set_option maxRecDepth 20000 in
theorem wcX3_isTownByte : Cond.code MX3_isTownByte.1 MX3_isTownByte.2.1 MX3_isTownByte.2.2.1 MX3_isTownByte.2.2.2.1 ∈ tbG := tbk2 104 rfl rfl
set_option maxRecDepth 20000 in
theorem wsX3_isTownByte : Cond.static yX3_isTownByte ∈ tbG := tbk2 103 rfl rfl
set_option maxRecDepth 20000 in
theorem wcX3_takeGate : Cond.code MX3_takeGate.1 MX3_takeGate.2.1 MX3_takeGate.2.2.1 MX3_takeGate.2.2.2.1 ∈ tbG := tbk2 101 rfl rfl
set_option maxRecDepth 20000 in
theorem wnX3_takeGate : Cond.instanceMethod yX3_takeGate ∈ tbG := tbk2 100 rfl rfl
theorem weX3_takeGate : Cond.selects RX3 yX3_takeGate yX3_takeGate ∈ tbG := tb_ps 4 (by decide +kernel) rfl
set_option maxRecDepth 20000 in
theorem wcX3_faultOf : Cond.code MX3_faultOf.1 MX3_faultOf.2.1 MX3_faultOf.2.2.1 MX3_faultOf.2.2.2.1 ∈ tbG := tbk2 86 rfl rfl
set_option maxRecDepth 20000 in
theorem wnX3_faultOf : Cond.instanceMethod yX3_faultOf ∈ tbG := tbk2 85 rfl rfl
theorem weX3_faultOf : Cond.selects RX3 yX3_faultOf yX3_faultOf ∈ tbG := tb_ps 2 (by decide +kernel) rfl
set_option maxRecDepth 20000 in
theorem wcX3_learn : Cond.code MX3_learn.1 MX3_learn.2.1 MX3_learn.2.2.1 MX3_learn.2.2.2.1 ∈ tbG := tbk2 74 rfl rfl
set_option maxRecDepth 20000 in
theorem wnX3_learn : Cond.instanceMethod yX3_learn ∈ tbG := tbk2 72 rfl rfl
set_option maxRecDepth 20000 in
theorem weX3_learn : Cond.selects RX3 yX3_learn yX3_learn ∈ tbG := tbk2 73 rfl rfl
set_option maxRecDepth 20000 in
theorem wcX3_close : Cond.code MX3_close.1 MX3_close.2.1 MX3_close.2.2.1 MX3_close.2.2.2.1 ∈ tbG := tbk2 170 rfl rfl
set_option maxRecDepth 20000 in
theorem wnX3_close : Cond.instanceMethod yX3_close ∈ tbG := tbk2 168 rfl rfl
set_option maxRecDepth 20000 in
theorem weX3_close : Cond.selects RX3 yX3_close yX3_close ∈ tbG := tbk2 169 rfl rfl
set_option maxRecDepth 20000 in
theorem wcX3_faultPlace : Cond.code MX3_faultPlace.1 MX3_faultPlace.2.1 MX3_faultPlace.2.2.1 MX3_faultPlace.2.2.2.1 ∈ tbG := tbk2 121 rfl rfl
set_option maxRecDepth 20000 in
theorem wnX3_faultPlace : Cond.instanceMethod yX3_faultPlace ∈ tbG := tbk2 119 rfl rfl
set_option maxRecDepth 20000 in
theorem weX3_faultPlace : Cond.selects RX3 yX3_faultPlace yX3_faultPlace ∈ tbG := tbk2 120 rfl rfl
set_option maxRecDepth 20000 in
theorem wcJ6_bitCount_0f7a4 : Cond.code MJ6_bitCount_0f7a4.1 MJ6_bitCount_0f7a4.2.1 MJ6_bitCount_0f7a4.2.2.1 MJ6_bitCount_0f7a4.2.2.2.1 ∈ tbG := tbk4 141 rfl rfl
set_option maxRecDepth 20000 in
theorem wsJ6_bitCount_0f7a4 : Cond.static yJ6_bitCount_0f7a4 ∈ tbG := tbk4 140 rfl rfl
set_option maxRecDepth 20000 in
theorem wcX3_gatesWatched : Cond.code MX3_gatesWatched.1 MX3_gatesWatched.2.1 MX3_gatesWatched.2.2.1 MX3_gatesWatched.2.2.2.1 ∈ tbG := tbk5 14 rfl rfl
set_option maxRecDepth 20000 in
theorem wnX3_gatesWatched : Cond.instanceMethod yX3_gatesWatched ∈ tbG := tbk5 12 rfl rfl
set_option maxRecDepth 20000 in
theorem weX3_gatesWatched : Cond.selects RX3 yX3_gatesWatched yX3_gatesWatched ∈ tbG := tbk5 13 rfl rfl
set_option maxRecDepth 20000 in
theorem wcX3_hasGate : Cond.code MX3_hasGate.1 MX3_hasGate.2.1 MX3_hasGate.2.2.1 MX3_hasGate.2.2.2.1 ∈ tbG := tbk2 138 rfl rfl
set_option maxRecDepth 20000 in
theorem wnX3_hasGate : Cond.instanceMethod yX3_hasGate ∈ tbG := tbk2 136 rfl rfl
set_option maxRecDepth 20000 in
theorem weX3_hasGate : Cond.selects RX3 yX3_hasGate yX3_hasGate ∈ tbG := tbk2 137 rfl rfl
set_option maxRecDepth 20000 in
theorem wcX3_openGates : Cond.code MX3_openGates.1 MX3_openGates.2.1 MX3_openGates.2.2.1 MX3_openGates.2.2.2.1 ∈ tbG := tbk4 156 rfl rfl
set_option maxRecDepth 20000 in
theorem wnX3_openGates : Cond.instanceMethod yX3_openGates ∈ tbG := tbk4 154 rfl rfl
set_option maxRecDepth 20000 in
theorem weX3_openGates : Cond.selects RX3 yX3_openGates yX3_openGates ∈ tbG := tbk4 155 rfl rfl
set_option maxRecDepth 20000 in
theorem wcX4_isFull : Cond.code MX4_isFull.1 MX4_isFull.2.1 MX4_isFull.2.2.1 MX4_isFull.2.2.2.1 ∈ tbG := tbk4 35 rfl rfl
set_option maxRecDepth 20000 in
theorem wnX4_isFull : Cond.instanceMethod yX4_isFull ∈ tbG := tbk4 33 rfl rfl
set_option maxRecDepth 20000 in
theorem weX4_isFull : Cond.selects RX4 yX4_isFull yX4_isFull ∈ tbG := tbk4 34 rfl rfl
set_option maxRecDepth 20000 in
theorem wcX4_size : Cond.code MX4_size.1 MX4_size.2.1 MX4_size.2.2.1 MX4_size.2.2.2.1 ∈ tbG := tbk4 46 rfl rfl
set_option maxRecDepth 20000 in
theorem wnX4_size : Cond.instanceMethod yX4_size ∈ tbG := tbk4 44 rfl rfl
set_option maxRecDepth 20000 in
theorem weX4_size : Cond.selects RX4 yX4_size yX4_size ∈ tbG := tbk4 45 rfl rfl
set_option maxRecDepth 20000 in
theorem wcX5_at : Cond.code MX5_at.1 MX5_at.2.1 MX5_at.2.2.1 MX5_at.2.2.2.1 ∈ tbG := tbk2 201 rfl rfl
set_option maxRecDepth 20000 in
theorem wnX5_at : Cond.instanceMethod yX5_at ∈ tbG := tbk2 199 rfl rfl
set_option maxRecDepth 20000 in
theorem weX5_at : Cond.selects RX5 yX5_at yX5_at ∈ tbG := tbk2 200 rfl rfl
set_option maxRecDepth 20000 in
theorem wcX4_append : Cond.code MX4_append.1 MX4_append.2.1 MX4_append.2.2.1 MX4_append.2.2.2.1 ∈ tbG := tbk4 39 rfl rfl
set_option maxRecDepth 20000 in
theorem wnX4_append : Cond.instanceMethod yX4_append ∈ tbG := tbk4 37 rfl rfl
set_option maxRecDepth 20000 in
theorem weX4_append : Cond.selects RX4 yX4_append yX4_append ∈ tbG := tbk4 38 rfl rfl
set_option maxRecDepth 20000 in
theorem wcX4_dropLast : Cond.code MX4_dropLast.1 MX4_dropLast.2.1 MX4_dropLast.2.2.1 MX4_dropLast.2.2.2.1 ∈ tbG := tbk4 81 rfl rfl
set_option maxRecDepth 20000 in
theorem wnX4_dropLast : Cond.instanceMethod yX4_dropLast ∈ tbG := tbk4 79 rfl rfl
set_option maxRecDepth 20000 in
theorem weX4_dropLast : Cond.selects RX4 yX4_dropLast yX4_dropLast ∈ tbG := tbk4 80 rfl rfl
set_option maxRecDepth 20000 in
theorem wcX4_goodOnes : Cond.code MX4_goodOnes.1 MX4_goodOnes.2.1 MX4_goodOnes.2.2.1 MX4_goodOnes.2.2.2.1 ∈ tbG := tbk5 19 rfl rfl
set_option maxRecDepth 20000 in
theorem wnX4_goodOnes : Cond.instanceMethod yX4_goodOnes ∈ tbG := tbk5 17 rfl rfl
set_option maxRecDepth 20000 in
theorem weX4_goodOnes : Cond.selects RX4 yX4_goodOnes yX4_goodOnes ∈ tbG := tbk5 18 rfl rfl
set_option maxRecDepth 20000 in
theorem wcX4_stampsOf : Cond.code MX4_stampsOf.1 MX4_stampsOf.2.1 MX4_stampsOf.2.2.1 MX4_stampsOf.2.2.2.1 ∈ tbG := tbk4 90 rfl rfl
set_option maxRecDepth 20000 in
theorem wnX4_stampsOf : Cond.instanceMethod yX4_stampsOf ∈ tbG := tbk4 88 rfl rfl
set_option maxRecDepth 20000 in
theorem weX4_stampsOf : Cond.selects RX4 yX4_stampsOf yX4_stampsOf ∈ tbG := tbk4 89 rfl rfl
set_option maxRecDepth 20000 in
theorem wcX4_stampAt : Cond.code MX4_stampAt.1 MX4_stampAt.2.1 MX4_stampAt.2.2.1 MX4_stampAt.2.2.2.1 ∈ tbG := tbk4 94 rfl rfl
set_option maxRecDepth 20000 in
theorem wnX4_stampAt : Cond.instanceMethod yX4_stampAt ∈ tbG := tbk4 92 rfl rfl
set_option maxRecDepth 20000 in
theorem weX4_stampAt : Cond.selects RX4 yX4_stampAt yX4_stampAt ∈ tbG := tbk4 93 rfl rfl
set_option maxRecDepth 20000 in
theorem wcX4_unlikeAt : Cond.code MX4_unlikeAt.1 MX4_unlikeAt.2.1 MX4_unlikeAt.2.2.1 MX4_unlikeAt.2.2.2.1 ∈ tbG := tbk4 109 rfl rfl
set_option maxRecDepth 20000 in
theorem wnX4_unlikeAt : Cond.instanceMethod yX4_unlikeAt ∈ tbG := tbk4 108 rfl rfl
theorem weX4_unlikeAt : Cond.selects RX4 yX4_unlikeAt yX4_unlikeAt ∈ tbG := tb_ps 36 (by decide +kernel) rfl
set_option maxRecDepth 20000 in
theorem wcX4_letsBy : Cond.code MX4_letsBy.1 MX4_letsBy.2.1 MX4_letsBy.2.2.1 MX4_letsBy.2.2.2.1 ∈ tbG := tbk4 105 rfl rfl
set_option maxRecDepth 20000 in
theorem wnX4_letsBy : Cond.instanceMethod yX4_letsBy ∈ tbG := tbk4 103 rfl rfl
set_option maxRecDepth 20000 in
theorem weX4_letsBy : Cond.selects RX4 yX4_letsBy yX4_letsBy ∈ tbG := tbk4 104 rfl rfl
set_option maxRecDepth 20000 in
theorem wcX4_unlikeOf : Cond.code MX4_unlikeOf.1 MX4_unlikeOf.2.1 MX4_unlikeOf.2.2.1 MX4_unlikeOf.2.2.2.1 ∈ tbG := tbk4 126 rfl rfl
set_option maxRecDepth 20000 in
theorem wnX4_unlikeOf : Cond.instanceMethod yX4_unlikeOf ∈ tbG := tbk4 125 rfl rfl
theorem weX4_unlikeOf : Cond.selects RX4 yX4_unlikeOf yX4_unlikeOf ∈ tbG := tb_ps 38 (by decide +kernel) rfl
set_option maxRecDepth 20000 in
theorem wcX4_isLetBy : Cond.code MX4_isLetBy.1 MX4_isLetBy.2.1 MX4_isLetBy.2.2.1 MX4_isLetBy.2.2.2.1 ∈ tbG := tbk4 122 rfl rfl
set_option maxRecDepth 20000 in
theorem wnX4_isLetBy : Cond.instanceMethod yX4_isLetBy ∈ tbG := tbk4 121 rfl rfl
theorem weX4_isLetBy : Cond.selects RX4 yX4_isLetBy yX4_isLetBy ∈ tbG := tb_ps 37 (by decide +kernel) rfl
set_option maxRecDepth 20000 in
theorem wcX4_slipping : Cond.code MX4_slipping.1 MX4_slipping.2.1 MX4_slipping.2.2.1 MX4_slipping.2.2.2.1 ∈ tbG := tbk4 118 rfl rfl
set_option maxRecDepth 20000 in
theorem wnX4_slipping : Cond.instanceMethod yX4_slipping ∈ tbG := tbk4 116 rfl rfl
set_option maxRecDepth 20000 in
theorem weX4_slipping : Cond.selects RX4 yX4_slipping yX4_slipping ∈ tbG := tbk4 117 rfl rfl
set_option maxRecDepth 20000 in
theorem wcX4_gatherUnlike : Cond.code MX4_gatherUnlike.1 MX4_gatherUnlike.2.1 MX4_gatherUnlike.2.2.1 MX4_gatherUnlike.2.2.2.1 ∈ tbG := tbk4 138 rfl rfl
set_option maxRecDepth 20000 in
theorem wnX4_gatherUnlike : Cond.instanceMethod yX4_gatherUnlike ∈ tbG := tbk4 137 rfl rfl
theorem weX4_gatherUnlike : Cond.selects RX4 yX4_gatherUnlike yX4_gatherUnlike ∈ tbG := tb_ps 39 (by decide +kernel) rfl
set_option maxRecDepth 20000 in
theorem wcX4_partsAll : Cond.code MX4_partsAll.1 MX4_partsAll.2.1 MX4_partsAll.2.2.1 MX4_partsAll.2.2.2.1 ∈ tbG := tbk4 148 rfl rfl
set_option maxRecDepth 20000 in
theorem wnX4_partsAll : Cond.instanceMethod yX4_partsAll ∈ tbG := tbk4 147 rfl rfl
theorem weX4_partsAll : Cond.selects RX4 yX4_partsAll yX4_partsAll ∈ tbG := tb_ps 40 (by decide +kernel) rfl
set_option maxRecDepth 20000 in
theorem wcX4_fewestPlaces : Cond.code MX4_fewestPlaces.1 MX4_fewestPlaces.2.1 MX4_fewestPlaces.2.2.1 MX4_fewestPlaces.2.2.2.1 ∈ tbG := tbk4 134 rfl rfl
set_option maxRecDepth 20000 in
theorem wnX4_fewestPlaces : Cond.instanceMethod yX4_fewestPlaces ∈ tbG := tbk4 132 rfl rfl
set_option maxRecDepth 20000 in
theorem weX4_fewestPlaces : Cond.selects RX4 yX4_fewestPlaces yX4_fewestPlaces ∈ tbG := tbk4 133 rfl rfl
set_option maxRecDepth 20000 in
theorem wcX5_empty : Cond.code MX5_empty.1 MX5_empty.2.1 MX5_empty.2.2.1 MX5_empty.2.2.2.1 ∈ tbG := tbk2 185 rfl rfl
set_option maxRecDepth 20000 in
theorem wnX5_empty : Cond.instanceMethod yX5_empty ∈ tbG := tbk2 183 rfl rfl
set_option maxRecDepth 20000 in
theorem weX5_empty : Cond.selects RX5 yX5_empty yX5_empty ∈ tbG := tbk2 184 rfl rfl
set_option maxRecDepth 20000 in
theorem wcX5_alike : Cond.code MX5_alike.1 MX5_alike.2.1 MX5_alike.2.2.1 MX5_alike.2.2.2.1 ∈ tbG := tbk3 24 rfl rfl
set_option maxRecDepth 20000 in
theorem wnX5_alike : Cond.instanceMethod yX5_alike ∈ tbG := tbk3 22 rfl rfl
set_option maxRecDepth 20000 in
theorem weX5_alike : Cond.selects RX5 yX5_alike yX5_alike ∈ tbG := tbk3 23 rfl rfl
set_option maxRecDepth 20000 in
theorem wcX6_need : Cond.code MX6_need.1 MX6_need.2.1 MX6_need.2.2.1 MX6_need.2.2.2.1 ∈ tbG := tbk3 81 rfl rfl
set_option maxRecDepth 20000 in
theorem wnX6_need : Cond.instanceMethod yX6_need ∈ tbG := tbk3 80 rfl rfl
theorem weX6_need : Cond.selects RX6 yX6_need yX6_need ∈ tbG := tb_ps 14 (by decide +kernel) rfl
set_option maxRecDepth 20000 in
theorem wcX6_plan : Cond.code MX6_plan.1 MX6_plan.2.1 MX6_plan.2.2.1 MX6_plan.2.2.2.1 ∈ tbG := tbk3 47 rfl rfl
set_option maxRecDepth 20000 in
theorem wnX6_plan : Cond.instanceMethod yX6_plan ∈ tbG := tbk3 45 rfl rfl
set_option maxRecDepth 20000 in
theorem weX6_plan : Cond.selects RX6 yX6_plan yX6_plan ∈ tbG := tbk3 46 rfl rfl
set_option maxRecDepth 20000 in
theorem wcX6_needAt : Cond.code MX6_needAt.1 MX6_needAt.2.1 MX6_needAt.2.2.1 MX6_needAt.2.2.2.1 ∈ tbG := tbk3 93 rfl rfl
set_option maxRecDepth 20000 in
theorem wnX6_needAt : Cond.instanceMethod yX6_needAt ∈ tbG := tbk3 92 rfl rfl
theorem weX6_needAt : Cond.selects RX6 yX6_needAt yX6_needAt ∈ tbG := tb_ps 16 (by decide +kernel) rfl
set_option maxRecDepth 20000 in
theorem wcX6_goal : Cond.code MX6_goal.1 MX6_goal.2.1 MX6_goal.2.2.1 MX6_goal.2.2.2.1 ∈ tbG := tbk3 98 rfl rfl
set_option maxRecDepth 20000 in
theorem wnX6_goal : Cond.instanceMethod yX6_goal ∈ tbG := tbk3 97 rfl rfl
theorem weX6_goal : Cond.selects RX6 yX6_goal yX6_goal ∈ tbG := tb_ps 17 (by decide +kernel) rfl
set_option maxRecDepth 20000 in
theorem wcX6_origin : Cond.code MX6_origin.1 MX6_origin.2.1 MX6_origin.2.2.1 MX6_origin.2.2.2.1 ∈ tbG := tbk3 89 rfl rfl
set_option maxRecDepth 20000 in
theorem wnX6_origin : Cond.instanceMethod yX6_origin ∈ tbG := tbk3 88 rfl rfl
theorem weX6_origin : Cond.selects RX6 yX6_origin yX6_origin ∈ tbG := tb_ps 15 (by decide +kernel) rfl
set_option maxRecDepth 20000 in
theorem wcX6_gatesBetween : Cond.code MX6_gatesBetween.1 MX6_gatesBetween.2.1 MX6_gatesBetween.2.2.1 MX6_gatesBetween.2.2.2.1 ∈ tbG := tbk3 85 rfl rfl
set_option maxRecDepth 20000 in
theorem wnX6_gatesBetween : Cond.instanceMethod yX6_gatesBetween ∈ tbG := tbk3 83 rfl rfl
set_option maxRecDepth 20000 in
theorem weX6_gatesBetween : Cond.selects RX6 yX6_gatesBetween yX6_gatesBetween ∈ tbG := tbk3 84 rfl rfl
set_option maxRecDepth 20000 in
theorem wcJ7_fill_d0a16 : Cond.code MJ7_fill_d0a16.1 MJ7_fill_d0a16.2.1 MJ7_fill_d0a16.2.2.1 MJ7_fill_d0a16.2.2.2.1 ∈ tbG := tbk3 116 rfl rfl
set_option maxRecDepth 20000 in
theorem wsJ7_fill_d0a16 : Cond.static yJ7_fill_d0a16 ∈ tbG := tbk3 115 rfl rfl
set_option maxRecDepth 20000 in
theorem wcX6_isLane : Cond.code MX6_isLane.1 MX6_isLane.2.1 MX6_isLane.2.2.1 MX6_isLane.2.2.2.1 ∈ tbG := tbk3 129 rfl rfl
set_option maxRecDepth 20000 in
theorem wnX6_isLane : Cond.instanceMethod yX6_isLane ∈ tbG := tbk3 128 rfl rfl
theorem weX6_isLane : Cond.selects RX6 yX6_isLane yX6_isLane ∈ tbG := tb_ps 20 (by decide +kernel) rfl
set_option maxRecDepth 20000 in
theorem wcX6_stepNearer : Cond.code MX6_stepNearer.1 MX6_stepNearer.2.1 MX6_stepNearer.2.2.1 MX6_stepNearer.2.2.2.1 ∈ tbG := tbk3 121 rfl rfl
set_option maxRecDepth 20000 in
theorem wnX6_stepNearer : Cond.instanceMethod yX6_stepNearer ∈ tbG := tbk3 120 rfl rfl
theorem weX6_stepNearer : Cond.selects RX6 yX6_stepNearer yX6_stepNearer ∈ tbG := tb_ps 19 (by decide +kernel) rfl
set_option maxRecDepth 20000 in
theorem wcX6_laneWays : Cond.code MX6_laneWays.1 MX6_laneWays.2.1 MX6_laneWays.2.2.1 MX6_laneWays.2.2.2.1 ∈ tbG := tbk3 113 rfl rfl
set_option maxRecDepth 20000 in
theorem wnX6_laneWays : Cond.instanceMethod yX6_laneWays ∈ tbG := tbk3 112 rfl rfl
theorem weX6_laneWays : Cond.selects RX6 yX6_laneWays yX6_laneWays ∈ tbG := tb_ps 18 (by decide +kernel) rfl
set_option maxRecDepth 20000 in
theorem wcX6_ways : Cond.code MX6_ways.1 MX6_ways.2.1 MX6_ways.2.2.1 MX6_ways.2.2.2.1 ∈ tbG := tbk3 109 rfl rfl
set_option maxRecDepth 20000 in
theorem wnX6_ways : Cond.instanceMethod yX6_ways ∈ tbG := tbk3 107 rfl rfl
set_option maxRecDepth 20000 in
theorem weX6_ways : Cond.selects RX6 yX6_ways yX6_ways ∈ tbG := tbk3 108 rfl rfl
set_option maxRecDepth 20000 in
theorem wcX6_leastNearer : Cond.code MX6_leastNearer.1 MX6_leastNearer.2.1 MX6_leastNearer.2.2.1 MX6_leastNearer.2.2.2.1 ∈ tbG := tbk3 149 rfl rfl
set_option maxRecDepth 20000 in
theorem wnX6_leastNearer : Cond.instanceMethod yX6_leastNearer ∈ tbG := tbk3 148 rfl rfl
theorem weX6_leastNearer : Cond.selects RX6 yX6_leastNearer yX6_leastNearer ∈ tbG := tb_ps 22 (by decide +kernel) rfl
set_option maxRecDepth 20000 in
theorem wcX6_leastLaneLetter : Cond.code MX6_leastLaneLetter.1 MX6_leastLaneLetter.2.1 MX6_leastLaneLetter.2.2.1 MX6_leastLaneLetter.2.2.2.1 ∈ tbG := tbk3 145 rfl rfl
set_option maxRecDepth 20000 in
theorem wnX6_leastLaneLetter : Cond.instanceMethod yX6_leastLaneLetter ∈ tbG := tbk3 144 rfl rfl
theorem weX6_leastLaneLetter : Cond.selects RX6 yX6_leastLaneLetter yX6_leastLaneLetter ∈ tbG := tb_ps 21 (by decide +kernel) rfl
set_option maxRecDepth 20000 in
theorem wcX6_leastLetter : Cond.code MX6_leastLetter.1 MX6_leastLetter.2.1 MX6_leastLetter.2.2.1 MX6_leastLetter.2.2.2.1 ∈ tbG := tbk3 141 rfl rfl
set_option maxRecDepth 20000 in
theorem wnX6_leastLetter : Cond.instanceMethod yX6_leastLetter ∈ tbG := tbk3 139 rfl rfl
set_option maxRecDepth 20000 in
theorem weX6_leastLetter : Cond.selects RX6 yX6_leastLetter yX6_leastLetter ∈ tbG := tbk3 140 rfl rfl
set_option maxRecDepth 20000 in
theorem wcX6_isChained : Cond.code MX6_isChained.1 MX6_isChained.2.1 MX6_isChained.2.2.1 MX6_isChained.2.2.2.1 ∈ tbG := tbk3 208 rfl rfl
set_option maxRecDepth 20000 in
theorem wnX6_isChained : Cond.instanceMethod yX6_isChained ∈ tbG := tbk3 207 rfl rfl
theorem weX6_isChained : Cond.selects RX6 yX6_isChained yX6_isChained ∈ tbG := tb_ps 27 (by decide +kernel) rfl
set_option maxRecDepth 20000 in
theorem wcX6_starts : Cond.code MX6_starts.1 MX6_starts.2.1 MX6_starts.2.2.1 MX6_starts.2.2.2.1 ∈ tbG := tbk3 204 rfl rfl
set_option maxRecDepth 20000 in
theorem wnX6_starts : Cond.instanceMethod yX6_starts ∈ tbG := tbk3 202 rfl rfl
set_option maxRecDepth 20000 in
theorem weX6_starts : Cond.selects RX6 yX6_starts yX6_starts ∈ tbG := tbk3 203 rfl rfl
set_option maxRecDepth 20000 in
theorem wcX6_ends : Cond.code MX6_ends.1 MX6_ends.2.1 MX6_ends.2.2.1 MX6_ends.2.2.2.1 ∈ tbG := tbk3 218 rfl rfl
set_option maxRecDepth 20000 in
theorem wnX6_ends : Cond.instanceMethod yX6_ends ∈ tbG := tbk3 216 rfl rfl
set_option maxRecDepth 20000 in
theorem weX6_ends : Cond.selects RX6 yX6_ends yX6_ends ∈ tbG := tbk3 217 rfl rfl
set_option maxRecDepth 20000 in
theorem wcX7_find : Cond.code MX7_find.1 MX7_find.2.1 MX7_find.2.2.1 MX7_find.2.2.2.1 ∈ tbG := tbk4 61 rfl rfl
set_option maxRecDepth 20000 in
theorem wnX7_find : Cond.instanceMethod yX7_find ∈ tbG := tbk4 59 rfl rfl
set_option maxRecDepth 20000 in
theorem weX7_find : Cond.selects RX7 yX7_find yX7_find ∈ tbG := tbk4 60 rfl rfl
set_option maxRecDepth 20000 in
theorem wcX7_latestFinding : Cond.code MX7_latestFinding.1 MX7_latestFinding.2.1 MX7_latestFinding.2.2.1 MX7_latestFinding.2.2.2.1 ∈ tbG := tbk5 23 rfl rfl
set_option maxRecDepth 20000 in
theorem wnX7_latestFinding : Cond.instanceMethod yX7_latestFinding ∈ tbG := tbk5 21 rfl rfl
set_option maxRecDepth 20000 in
theorem weX7_latestFinding : Cond.selects RX7 yX7_latestFinding yX7_latestFinding ∈ tbG := tbk5 22 rfl rfl
set_option maxRecDepth 20000 in
theorem wcX7_isLost : Cond.code MX7_isLost.1 MX7_isLost.2.1 MX7_isLost.2.2.1 MX7_isLost.2.2.2.1 ∈ tbG := tbk4 57 rfl rfl
set_option maxRecDepth 20000 in
theorem wnX7_isLost : Cond.instanceMethod yX7_isLost ∈ tbG := tbk4 55 rfl rfl
set_option maxRecDepth 20000 in
theorem weX7_isLost : Cond.selects RX7 yX7_isLost yX7_isLost ∈ tbG := tbk4 56 rfl rfl
set_option maxRecDepth 20000 in
theorem wcX7_size : Cond.code MX7_size.1 MX7_size.2.1 MX7_size.2.2.1 MX7_size.2.2.2.1 ∈ tbG := tbk4 65 rfl rfl
set_option maxRecDepth 20000 in
theorem wnX7_size : Cond.instanceMethod yX7_size ∈ tbG := tbk4 63 rfl rfl
set_option maxRecDepth 20000 in
theorem weX7_size : Cond.selects RX7 yX7_size yX7_size ∈ tbG := tbk4 64 rfl rfl
set_option maxRecDepth 20000 in
theorem wcX7_make : Cond.code MX7_make.1 MX7_make.2.1 MX7_make.2.2.1 MX7_make.2.2.2.1 ∈ tbG := tbk4 197 rfl rfl
set_option maxRecDepth 20000 in
theorem wnX7_make : Cond.instanceMethod yX7_make ∈ tbG := tbk4 195 rfl rfl
set_option maxRecDepth 20000 in
theorem weX7_make : Cond.selects RX7 yX7_make yX7_make ∈ tbG := tbk4 196 rfl rfl
set_option maxRecDepth 20000 in
theorem wcX7_drop : Cond.code MX7_drop.1 MX7_drop.2.1 MX7_drop.2.2.1 MX7_drop.2.2.2.1 ∈ tbG := tbk4 205 rfl rfl
set_option maxRecDepth 20000 in
theorem wnX7_drop : Cond.instanceMethod yX7_drop ∈ tbG := tbk4 203 rfl rfl
set_option maxRecDepth 20000 in
theorem weX7_drop : Cond.selects RX7 yX7_drop yX7_drop ∈ tbG := tbk4 204 rfl rfl
set_option maxRecDepth 20000 in
theorem wcX7_findingAt : Cond.code MX7_findingAt.1 MX7_findingAt.2.1 MX7_findingAt.2.2.1 MX7_findingAt.2.2.2.1 ∈ tbG := tbk4 213 rfl rfl
set_option maxRecDepth 20000 in
theorem wnX7_findingAt : Cond.instanceMethod yX7_findingAt ∈ tbG := tbk4 211 rfl rfl
set_option maxRecDepth 20000 in
theorem weX7_findingAt : Cond.selects RX7 yX7_findingAt yX7_findingAt ∈ tbG := tbk4 212 rfl rfl
set_option maxRecDepth 20000 in
theorem wcX7_hasRun : Cond.code MX7_hasRun.1 MX7_hasRun.2.1 MX7_hasRun.2.2.1 MX7_hasRun.2.2.2.1 ∈ tbG := tbk4 235 rfl rfl
set_option maxRecDepth 20000 in
theorem wnX7_hasRun : Cond.instanceMethod yX7_hasRun ∈ tbG := tbk4 234 rfl rfl
theorem weX7_hasRun : Cond.selects RX7 yX7_hasRun yX7_hasRun ∈ tbG := tb_ps 41 (by decide +kernel) rfl
set_option maxRecDepth 20000 in
theorem wcX7_findingOfCopy : Cond.code MX7_findingOfCopy.1 MX7_findingOfCopy.2.1 MX7_findingOfCopy.2.2.1 MX7_findingOfCopy.2.2.2.1 ∈ tbG := tbk4 231 rfl rfl
set_option maxRecDepth 20000 in
theorem wnX7_findingOfCopy : Cond.instanceMethod yX7_findingOfCopy ∈ tbG := tbk4 229 rfl rfl
set_option maxRecDepth 20000 in
theorem weX7_findingOfCopy : Cond.selects RX7 yX7_findingOfCopy yX7_findingOfCopy ∈ tbG := tbk4 230 rfl rfl
set_option maxRecDepth 20000 in
theorem wcX7_item : Cond.code MX7_item.1 MX7_item.2.1 MX7_item.2.2.1 MX7_item.2.2.2.1 ∈ tbG := tbk4 69 rfl rfl
set_option maxRecDepth 20000 in
theorem wnX7_item : Cond.instanceMethod yX7_item ∈ tbG := tbk4 67 rfl rfl
set_option maxRecDepth 20000 in
theorem weX7_item : Cond.selects RX7 yX7_item yX7_item ∈ tbG := tbk4 68 rfl rfl
set_option maxRecDepth 20000 in
theorem wcX7_put : Cond.code MX7_put.1 MX7_put.2.1 MX7_put.2.2.1 MX7_put.2.2.2.1 ∈ tbG := tbk4 218 rfl rfl
set_option maxRecDepth 20000 in
theorem wnX7_put : Cond.instanceMethod yX7_put ∈ tbG := tbk4 216 rfl rfl
set_option maxRecDepth 20000 in
theorem weX7_put : Cond.selects RX7 yX7_put yX7_put ∈ tbG := tbk4 217 rfl rfl
set_option maxRecDepth 20000 in
theorem wcX7_move : Cond.code MX7_move.1 MX7_move.2.1 MX7_move.2.2.1 MX7_move.2.2.2.1 ∈ tbG := tbk4 239 rfl rfl
set_option maxRecDepth 20000 in
theorem wnX7_move : Cond.instanceMethod yX7_move ∈ tbG := tbk4 237 rfl rfl
set_option maxRecDepth 20000 in
theorem weX7_move : Cond.selects RX7 yX7_move yX7_move ∈ tbG := tbk4 238 rfl rfl
set_option maxRecDepth 20000 in
theorem wcX8_isFull : Cond.code MX8_isFull.1 MX8_isFull.2.1 MX8_isFull.2.2.1 MX8_isFull.2.2.2.1 ∈ tbG := tbk2 62 rfl rfl
set_option maxRecDepth 20000 in
theorem wnX8_isFull : Cond.instanceMethod yX8_isFull ∈ tbG := tbk2 60 rfl rfl
set_option maxRecDepth 20000 in
theorem weX8_isFull : Cond.selects RX8 yX8_isFull yX8_isFull ∈ tbG := tbk2 61 rfl rfl
set_option maxRecDepth 20000 in
theorem wcX8_append : Cond.code MX8_append.1 MX8_append.2.1 MX8_append.2.2.1 MX8_append.2.2.2.1 ∈ tbG := tbk2 66 rfl rfl
set_option maxRecDepth 20000 in
theorem wnX8_append : Cond.instanceMethod yX8_append ∈ tbG := tbk2 64 rfl rfl
set_option maxRecDepth 20000 in
theorem weX8_append : Cond.selects RX8 yX8_append yX8_append ∈ tbG := tbk2 65 rfl rfl
set_option maxRecDepth 20000 in
theorem wcX8_empty : Cond.code MX8_empty.1 MX8_empty.2.1 MX8_empty.2.2.1 MX8_empty.2.2.2.1 ∈ tbG := tbk2 113 rfl rfl
set_option maxRecDepth 20000 in
theorem wnX8_empty : Cond.instanceMethod yX8_empty ∈ tbG := tbk2 111 rfl rfl
set_option maxRecDepth 20000 in
theorem weX8_empty : Cond.selects RX8 yX8_empty yX8_empty ∈ tbG := tbk2 112 rfl rfl
set_option maxRecDepth 20000 in
theorem wcX9_joinTowns : Cond.code MX9_joinTowns.1 MX9_joinTowns.2.1 MX9_joinTowns.2.2.1 MX9_joinTowns.2.2.2.1 ∈ tbG := tbk3 232 rfl rfl
set_option maxRecDepth 20000 in
theorem wnX9_joinTowns : Cond.instanceMethod yX9_joinTowns ∈ tbG := tbk3 231 rfl rfl
theorem weX9_joinTowns : Cond.selects RX9 yX9_joinTowns yX9_joinTowns ∈ tbG := tb_ps 28 (by decide +kernel) rfl
set_option maxRecDepth 20000 in
theorem wcX9_goOnByLanes : Cond.code MX9_goOnByLanes.1 MX9_goOnByLanes.2.1 MX9_goOnByLanes.2.2.1 MX9_goOnByLanes.2.2.2.1 ∈ tbG := tbk4 12 rfl rfl
set_option maxRecDepth 20000 in
theorem wnX9_goOnByLanes : Cond.instanceMethod yX9_goOnByLanes ∈ tbG := tbk4 11 rfl rfl
theorem weX9_goOnByLanes : Cond.selects RX9 yX9_goOnByLanes yX9_goOnByLanes ∈ tbG := tb_ps 31 (by decide +kernel) rfl
set_option maxRecDepth 20000 in
theorem wcX9_behindRounds : Cond.code MX9_behindRounds.1 MX9_behindRounds.2.1 MX9_behindRounds.2.2.1 MX9_behindRounds.2.2.2.1 ∈ tbG := tbk4 18 rfl rfl
set_option maxRecDepth 20000 in
theorem wnX9_behindRounds : Cond.instanceMethod yX9_behindRounds ∈ tbG := tbk4 17 rfl rfl
theorem weX9_behindRounds : Cond.selects RX9 yX9_behindRounds yX9_behindRounds ∈ tbG := tb_ps 32 (by decide +kernel) rfl
set_option maxRecDepth 20000 in
theorem wcX9_lengthen : Cond.code MX9_lengthen.1 MX9_lengthen.2.1 MX9_lengthen.2.2.1 MX9_lengthen.2.2.2.1 ∈ tbG := tbk4 8 rfl rfl
set_option maxRecDepth 20000 in
theorem wnX9_lengthen : Cond.instanceMethod yX9_lengthen ∈ tbG := tbk4 7 rfl rfl
theorem weX9_lengthen : Cond.selects RX9 yX9_lengthen yX9_lengthen ∈ tbG := tb_ps 30 (by decide +kernel) rfl
set_option maxRecDepth 20000 in
theorem wcX9_countRounds : Cond.code MX9_countRounds.1 MX9_countRounds.2.1 MX9_countRounds.2.2.1 MX9_countRounds.2.2.2.1 ∈ tbG := tbk3 239 rfl rfl
set_option maxRecDepth 20000 in
theorem wnX9_countRounds : Cond.instanceMethod yX9_countRounds ∈ tbG := tbk3 238 rfl rfl
theorem weX9_countRounds : Cond.selects RX9 yX9_countRounds yX9_countRounds ∈ tbG := tb_ps 29 (by decide +kernel) rfl
set_option maxRecDepth 20000 in
theorem wcX9_countFrom : Cond.code MX9_countFrom.1 MX9_countFrom.2.1 MX9_countFrom.2.2.1 MX9_countFrom.2.2.2.1 ∈ tbG := tbk4 22 rfl rfl
set_option maxRecDepth 20000 in
theorem wnX9_countFrom : Cond.instanceMethod yX9_countFrom ∈ tbG := tbk4 21 rfl rfl
theorem weX9_countFrom : Cond.selects RX9 yX9_countFrom yX9_countFrom ∈ tbG := tb_ps 33 (by decide +kernel) rfl
set_option maxRecDepth 20000 in
theorem wcX9_stampForGood : Cond.code MX9_stampForGood.1 MX9_stampForGood.2.1 MX9_stampForGood.2.2.1 MX9_stampForGood.2.2.2.1 ∈ tbG := tbk4 27 rfl rfl
set_option maxRecDepth 20000 in
theorem wnX9_stampForGood : Cond.instanceMethod yX9_stampForGood ∈ tbG := tbk4 26 rfl rfl
theorem weX9_stampForGood : Cond.selects RX9 yX9_stampForGood yX9_stampForGood ∈ tbG := tb_ps 34 (by decide +kernel) rfl
set_option maxRecDepth 20000 in
theorem wcX9_number : Cond.code MX9_number.1 MX9_number.2.1 MX9_number.2.2.1 MX9_number.2.2.2.1 ∈ tbG := tbk3 226 rfl rfl
set_option maxRecDepth 20000 in
theorem wnX9_number : Cond.instanceMethod yX9_number ∈ tbG := tbk3 224 rfl rfl
set_option maxRecDepth 20000 in
theorem weX9_number : Cond.selects RX9 yX9_number yX9_number ∈ tbG := tbk3 225 rfl rfl
set_option maxRecDepth 20000 in
theorem wcX10_isText : Cond.code MX10_isText.1 MX10_isText.2.1 MX10_isText.2.2.1 MX10_isText.2.2.2.1 ∈ tbG := tbk2 58 rfl rfl
set_option maxRecDepth 20000 in
theorem wsX10_isText : Cond.static yX10_isText ∈ tbG := tbk2 57 rfl rfl
set_option maxRecDepth 20000 in
theorem wcX10_learnIfLand : Cond.code MX10_learnIfLand.1 MX10_learnIfLand.2.1 MX10_learnIfLand.2.2.1 MX10_learnIfLand.2.2.2.1 ∈ tbG := tbk2 70 rfl rfl
set_option maxRecDepth 20000 in
theorem wnX10_learnIfLand : Cond.instanceMethod yX10_learnIfLand ∈ tbG := tbk2 69 rfl rfl
theorem weX10_learnIfLand : Cond.selects RX10 yX10_learnIfLand yX10_learnIfLand ∈ tbG := tb_ps 0 (by decide +kernel) rfl
set_option maxRecDepth 20000 in
theorem wcX10_type : Cond.code MX10_type.1 MX10_type.2.1 MX10_type.2.2.1 MX10_type.2.2.2.1 ∈ tbG := tbk2 55 rfl rfl
set_option maxRecDepth 20000 in
theorem wnX10_type : Cond.instanceMethod yX10_type ∈ tbG := tbk2 53 rfl rfl
set_option maxRecDepth 20000 in
theorem weX10_type : Cond.selects RX10 yX10_type yX10_type ∈ tbG := tbk2 54 rfl rfl
set_option maxRecDepth 20000 in
theorem wcX10_wipe : Cond.code MX10_wipe.1 MX10_wipe.2.1 MX10_wipe.2.2.1 MX10_wipe.2.2.2.1 ∈ tbG := tbk2 109 rfl rfl
set_option maxRecDepth 20000 in
theorem wnX10_wipe : Cond.instanceMethod yX10_wipe ∈ tbG := tbk2 107 rfl rfl
set_option maxRecDepth 20000 in
theorem weX10_wipe : Cond.selects RX10 yX10_wipe yX10_wipe ∈ tbG := tbk2 108 rfl rfl
set_option maxRecDepth 20000 in
theorem wcX10_wayFault : Cond.code MX10_wayFault.1 MX10_wayFault.2.1 MX10_wayFault.2.2.1 MX10_wayFault.2.2.2.1 ∈ tbG := tbk2 125 rfl rfl
set_option maxRecDepth 20000 in
theorem wnX10_wayFault : Cond.instanceMethod yX10_wayFault ∈ tbG := tbk2 124 rfl rfl
theorem weX10_wayFault : Cond.selects RX10 yX10_wayFault yX10_wayFault ∈ tbG := tb_ps 5 (by decide +kernel) rfl
set_option maxRecDepth 20000 in
theorem wcX10_fault : Cond.code MX10_fault.1 MX10_fault.2.1 MX10_fault.2.2.1 MX10_fault.2.2.2.1 ∈ tbG := tbk2 117 rfl rfl
set_option maxRecDepth 20000 in
theorem wnX10_fault : Cond.instanceMethod yX10_fault ∈ tbG := tbk2 115 rfl rfl
set_option maxRecDepth 20000 in
theorem weX10_fault : Cond.selects RX10 yX10_fault yX10_fault ∈ tbG := tbk2 116 rfl rfl
set_option maxRecDepth 20000 in
theorem wcX10_gate : Cond.code MX10_gate.1 MX10_gate.2.1 MX10_gate.2.2.1 MX10_gate.2.2.2.1 ∈ tbG := tbk2 134 rfl rfl
set_option maxRecDepth 20000 in
theorem wnX10_gate : Cond.instanceMethod yX10_gate ∈ tbG := tbk2 132 rfl rfl
set_option maxRecDepth 20000 in
theorem weX10_gate : Cond.selects RX10 yX10_gate yX10_gate ∈ tbG := tbk2 133 rfl rfl
set_option maxRecDepth 20000 in
theorem wcX10_room : Cond.code MX10_room.1 MX10_room.2.1 MX10_room.2.2.1 MX10_room.2.2.2.1 ∈ tbG := tbk2 158 rfl rfl
set_option maxRecDepth 20000 in
theorem wnX10_room : Cond.instanceMethod yX10_room ∈ tbG := tbk2 156 rfl rfl
set_option maxRecDepth 20000 in
theorem weX10_room : Cond.selects RX10 yX10_room yX10_room ∈ tbG := tbk2 157 rfl rfl
set_option maxRecDepth 20000 in
theorem wcX10_shut : Cond.code MX10_shut.1 MX10_shut.2.1 MX10_shut.2.2.1 MX10_shut.2.2.2.1 ∈ tbG := tbk2 166 rfl rfl
set_option maxRecDepth 20000 in
theorem wnX10_shut : Cond.instanceMethod yX10_shut ∈ tbG := tbk2 164 rfl rfl
set_option maxRecDepth 20000 in
theorem weX10_shut : Cond.selects RX10 yX10_shut yX10_shut ∈ tbG := tbk2 165 rfl rfl
set_option maxRecDepth 20000 in
theorem wcX10_isWay : Cond.code MX10_isWay.1 MX10_isWay.2.1 MX10_isWay.2.2.1 MX10_isWay.2.2.2.1 ∈ tbG := tbk2 177 rfl rfl
set_option maxRecDepth 20000 in
theorem wsX10_isWay : Cond.static yX10_isWay ∈ tbG := tbk2 176 rfl rfl
set_option maxRecDepth 20000 in
theorem wcX10_stampWay : Cond.code MX10_stampWay.1 MX10_stampWay.2.1 MX10_stampWay.2.2.1 MX10_stampWay.2.2.2.1 ∈ tbG := tbk2 181 rfl rfl
set_option maxRecDepth 20000 in
theorem wnX10_stampWay : Cond.instanceMethod yX10_stampWay ∈ tbG := tbk2 180 rfl rfl
theorem weX10_stampWay : Cond.selects RX10 yX10_stampWay yX10_stampWay ∈ tbG := tb_ps 6 (by decide +kernel) rfl
set_option maxRecDepth 20000 in
theorem wcX10_byteOf : Cond.code MX10_byteOf.1 MX10_byteOf.2.1 MX10_byteOf.2.2.1 MX10_byteOf.2.2.2.1 ∈ tbG := tbk2 204 rfl rfl
set_option maxRecDepth 20000 in
theorem wsX10_byteOf : Cond.static yX10_byteOf ∈ tbG := tbk2 203 rfl rfl
set_option maxRecDepth 20000 in
theorem wcX10_paper : Cond.code MX10_paper.1 MX10_paper.2.1 MX10_paper.2.2.1 MX10_paper.2.2.2.1 ∈ tbG := tbk2 174 rfl rfl
set_option maxRecDepth 20000 in
theorem wnX10_paper : Cond.instanceMethod yX10_paper ∈ tbG := tbk2 172 rfl rfl
set_option maxRecDepth 20000 in
theorem weX10_paper : Cond.selects RX10 yX10_paper yX10_paper ∈ tbG := tbk2 173 rfl rfl
set_option maxRecDepth 20000 in
theorem wcX10_isWayOrClean : Cond.code MX10_isWayOrClean.1 MX10_isWayOrClean.2.1 MX10_isWayOrClean.2.2.1 MX10_isWayOrClean.2.2.2.1 ∈ tbG := tbk2 214 rfl rfl
set_option maxRecDepth 20000 in
theorem wsX10_isWayOrClean : Cond.static yX10_isWayOrClean ∈ tbG := tbk2 213 rfl rfl
set_option maxRecDepth 20000 in
theorem wcX10_judgeWay : Cond.code MX10_judgeWay.1 MX10_judgeWay.2.1 MX10_judgeWay.2.2.1 MX10_judgeWay.2.2.2.1 ∈ tbG := tbk2 218 rfl rfl
set_option maxRecDepth 20000 in
theorem wnX10_judgeWay : Cond.instanceMethod yX10_judgeWay ∈ tbG := tbk2 217 rfl rfl
theorem weX10_judgeWay : Cond.selects RX10 yX10_judgeWay yX10_judgeWay ∈ tbG := tb_ps 7 (by decide +kernel) rfl
set_option maxRecDepth 20000 in
theorem wcX10_judged : Cond.code MX10_judged.1 MX10_judged.2.1 MX10_judged.2.2.1 MX10_judged.2.2.2.1 ∈ tbG := tbk2 208 rfl rfl
set_option maxRecDepth 20000 in
theorem wnX10_judged : Cond.instanceMethod yX10_judged ∈ tbG := tbk2 206 rfl rfl
set_option maxRecDepth 20000 in
theorem weX10_judged : Cond.selects RX10 yX10_judged yX10_judged ∈ tbG := tbk2 207 rfl rfl
set_option maxRecDepth 20000 in
theorem wcX10_same : Cond.code MX10_same.1 MX10_same.2.1 MX10_same.2.2.1 MX10_same.2.2.2.1 ∈ tbG := tbk3 20 rfl rfl
set_option maxRecDepth 20000 in
theorem wnX10_same : Cond.instanceMethod yX10_same ∈ tbG := tbk3 18 rfl rfl
set_option maxRecDepth 20000 in
theorem weX10_same : Cond.selects RX10 yX10_same yX10_same ∈ tbG := tbk3 19 rfl rfl
set_option maxRecDepth 20000 in
theorem wcX10_areEnds : Cond.code MX10_areEnds.1 MX10_areEnds.2.1 MX10_areEnds.2.2.1 MX10_areEnds.2.2.2.1 ∈ tbG := tbk3 34 rfl rfl
set_option maxRecDepth 20000 in
theorem wsX10_areEnds : Cond.static yX10_areEnds ∈ tbG := tbk3 33 rfl rfl
set_option maxRecDepth 20000 in
theorem wcX10_longRefusal : Cond.code MX10_longRefusal.1 MX10_longRefusal.2.1 MX10_longRefusal.2.2.1 MX10_longRefusal.2.2.2.1 ∈ tbG := tbk3 37 rfl rfl
set_option maxRecDepth 20000 in
theorem wsX10_longRefusal : Cond.static yX10_longRefusal ∈ tbG := tbk3 36 rfl rfl
set_option maxRecDepth 20000 in
theorem wcX10_planRoute : Cond.code MX10_planRoute.1 MX10_planRoute.2.1 MX10_planRoute.2.2.1 MX10_planRoute.2.2.2.1 ∈ tbG := tbk3 42 rfl rfl
set_option maxRecDepth 20000 in
theorem wnX10_planRoute : Cond.instanceMethod yX10_planRoute ∈ tbG := tbk3 41 rfl rfl
theorem weX10_planRoute : Cond.selects RX10 yX10_planRoute yX10_planRoute ∈ tbG := tb_ps 10 (by decide +kernel) rfl
set_option maxRecDepth 20000 in
theorem wcX10_shortest : Cond.code MX10_shortest.1 MX10_shortest.2.1 MX10_shortest.2.2.1 MX10_shortest.2.2.2.1 ∈ tbG := tbk3 31 rfl rfl
set_option maxRecDepth 20000 in
theorem wnX10_shortest : Cond.instanceMethod yX10_shortest ∈ tbG := tbk3 29 rfl rfl
set_option maxRecDepth 20000 in
theorem weX10_shortest : Cond.selects RX10 yX10_shortest yX10_shortest ∈ tbG := tbk3 30 rfl rfl
set_option maxRecDepth 20000 in
theorem wcX10_letter : Cond.code MX10_letter.1 MX10_letter.2.1 MX10_letter.2.2.1 MX10_letter.2.2.2.1 ∈ tbG := tbk3 137 rfl rfl
set_option maxRecDepth 20000 in
theorem wnX10_letter : Cond.instanceMethod yX10_letter ∈ tbG := tbk3 135 rfl rfl
set_option maxRecDepth 20000 in
theorem weX10_letter : Cond.selects RX10 yX10_letter yX10_letter ∈ tbG := tbk3 136 rfl rfl
set_option maxRecDepth 20000 in
theorem wcX10_errands : Cond.code MX10_errands.1 MX10_errands.2.1 MX10_errands.2.2.1 MX10_errands.2.2.2.1 ∈ tbG := tbk3 153 rfl rfl
set_option maxRecDepth 20000 in
theorem wnX10_errands : Cond.instanceMethod yX10_errands ∈ tbG := tbk3 151 rfl rfl
set_option maxRecDepth 20000 in
theorem weX10_errands : Cond.selects RX10 yX10_errands yX10_errands ∈ tbG := tbk3 152 rfl rfl
set_option maxRecDepth 20000 in
theorem wcX10_clean : Cond.code MX10_clean.1 MX10_clean.2.1 MX10_clean.2.2.1 MX10_clean.2.2.2.1 ∈ tbG := tbk3 192 rfl rfl
set_option maxRecDepth 20000 in
theorem wnX10_clean : Cond.instanceMethod yX10_clean ∈ tbG := tbk3 190 rfl rfl
set_option maxRecDepth 20000 in
theorem weX10_clean : Cond.selects RX10 yX10_clean yX10_clean ∈ tbG := tbk3 191 rfl rfl
set_option maxRecDepth 20000 in
theorem wcX10_found : Cond.code MX10_found.1 MX10_found.2.1 MX10_found.2.2.1 MX10_found.2.2.2.1 ∈ tbG := tbk3 200 rfl rfl
set_option maxRecDepth 20000 in
theorem wnX10_found : Cond.instanceMethod yX10_found ∈ tbG := tbk3 198 rfl rfl
set_option maxRecDepth 20000 in
theorem weX10_found : Cond.selects RX10 yX10_found yX10_found ∈ tbG := tbk3 199 rfl rfl
set_option maxRecDepth 20000 in
theorem wcX10_many : Cond.code MX10_many.1 MX10_many.2.1 MX10_many.2.2.1 MX10_many.2.2.2.1 ∈ tbG := tbk3 222 rfl rfl
set_option maxRecDepth 20000 in
theorem wnX10_many : Cond.instanceMethod yX10_many ∈ tbG := tbk3 220 rfl rfl
set_option maxRecDepth 20000 in
theorem weX10_many : Cond.selects RX10 yX10_many yX10_many ∈ tbG := tbk3 221 rfl rfl
set_option maxRecDepth 20000 in
theorem wcX10_list : Cond.code MX10_list.1 MX10_list.2.1 MX10_list.2.2.1 MX10_list.2.2.2.1 ∈ tbG := tbk4 31 rfl rfl
set_option maxRecDepth 20000 in
theorem wnX10_list : Cond.instanceMethod yX10_list ∈ tbG := tbk4 29 rfl rfl
set_option maxRecDepth 20000 in
theorem weX10_list : Cond.selects RX10 yX10_list yX10_list ∈ tbG := tbk4 30 rfl rfl
set_option maxRecDepth 20000 in
theorem wcX10_isSheet : Cond.code MX10_isSheet.1 MX10_isSheet.2.1 MX10_isSheet.2.2.1 MX10_isSheet.2.2.2.1 ∈ tbG := tbk4 53 rfl rfl
set_option maxRecDepth 20000 in
theorem wsX10_isSheet : Cond.static yX10_isSheet ∈ tbG := tbk4 52 rfl rfl
set_option maxRecDepth 20000 in
theorem wcX10_listIfRoom : Cond.code MX10_listIfRoom.1 MX10_listIfRoom.2.1 MX10_listIfRoom.2.2.1 MX10_listIfRoom.2.2.2.1 ∈ tbG := tbk4 73 rfl rfl
set_option maxRecDepth 20000 in
theorem wnX10_listIfRoom : Cond.instanceMethod yX10_listIfRoom ∈ tbG := tbk4 72 rfl rfl
theorem weX10_listIfRoom : Cond.selects RX10 yX10_listIfRoom yX10_listIfRoom ∈ tbG := tb_ps 35 (by decide +kernel) rfl
set_option maxRecDepth 20000 in
theorem wcX10_read : Cond.code MX10_read.1 MX10_read.2.1 MX10_read.2.2.1 MX10_read.2.2.2.1 ∈ tbG := tbk4 50 rfl rfl
set_option maxRecDepth 20000 in
theorem wnX10_read : Cond.instanceMethod yX10_read ∈ tbG := tbk4 48 rfl rfl
set_option maxRecDepth 20000 in
theorem weX10_read : Cond.selects RX10 yX10_read yX10_read ∈ tbG := tbk4 49 rfl rfl
set_option maxRecDepth 20000 in
theorem wcX10_unlist : Cond.code MX10_unlist.1 MX10_unlist.2.1 MX10_unlist.2.2.1 MX10_unlist.2.2.2.1 ∈ tbG := tbk4 77 rfl rfl
set_option maxRecDepth 20000 in
theorem wnX10_unlist : Cond.instanceMethod yX10_unlist ∈ tbG := tbk4 75 rfl rfl
set_option maxRecDepth 20000 in
theorem weX10_unlist : Cond.selects RX10 yX10_unlist yX10_unlist ∈ tbG := tbk4 76 rfl rfl
set_option maxRecDepth 20000 in
theorem wcX10_listed : Cond.code MX10_listed.1 MX10_listed.2.1 MX10_listed.2.2.1 MX10_listed.2.2.2.1 ∈ tbG := tbk4 86 rfl rfl
set_option maxRecDepth 20000 in
theorem wnX10_listed : Cond.instanceMethod yX10_listed ∈ tbG := tbk4 84 rfl rfl
set_option maxRecDepth 20000 in
theorem weX10_listed : Cond.selects RX10 yX10_listed yX10_listed ∈ tbG := tbk4 85 rfl rfl
set_option maxRecDepth 20000 in
theorem wcX10_arePlaces : Cond.code MX10_arePlaces.1 MX10_arePlaces.2.1 MX10_arePlaces.2.2.1 MX10_arePlaces.2.2.2.1 ∈ tbG := tbk4 101 rfl rfl
set_option maxRecDepth 20000 in
theorem wsX10_arePlaces : Cond.static yX10_arePlaces ∈ tbG := tbk4 100 rfl rfl
set_option maxRecDepth 20000 in
theorem wcX10_lets : Cond.code MX10_lets.1 MX10_lets.2.1 MX10_lets.2.2.1 MX10_lets.2.2.2.1 ∈ tbG := tbk4 98 rfl rfl
set_option maxRecDepth 20000 in
theorem wnX10_lets : Cond.instanceMethod yX10_lets ∈ tbG := tbk4 96 rfl rfl
set_option maxRecDepth 20000 in
theorem weX10_lets : Cond.selects RX10 yX10_lets yX10_lets ∈ tbG := tbk4 97 rfl rfl
set_option maxRecDepth 20000 in
theorem wcX10_slips : Cond.code MX10_slips.1 MX10_slips.2.1 MX10_slips.2.2.1 MX10_slips.2.2.2.1 ∈ tbG := tbk4 114 rfl rfl
set_option maxRecDepth 20000 in
theorem wnX10_slips : Cond.instanceMethod yX10_slips ∈ tbG := tbk4 112 rfl rfl
set_option maxRecDepth 20000 in
theorem weX10_slips : Cond.selects RX10 yX10_slips yX10_slips ∈ tbG := tbk4 113 rfl rfl
set_option maxRecDepth 20000 in
theorem wcX10_fewest : Cond.code MX10_fewest.1 MX10_fewest.2.1 MX10_fewest.2.2.1 MX10_fewest.2.2.2.1 ∈ tbG := tbk4 130 rfl rfl
set_option maxRecDepth 20000 in
theorem wnX10_fewest : Cond.instanceMethod yX10_fewest ∈ tbG := tbk4 128 rfl rfl
set_option maxRecDepth 20000 in
theorem weX10_fewest : Cond.selects RX10 yX10_fewest yX10_fewest ∈ tbG := tbk4 129 rfl rfl
set_option maxRecDepth 20000 in
theorem wcX10_far : Cond.code MX10_far.1 MX10_far.2.1 MX10_far.2.2.1 MX10_far.2.2.2.1 ∈ tbG := tbk4 152 rfl rfl
set_option maxRecDepth 20000 in
theorem wnX10_far : Cond.instanceMethod yX10_far ∈ tbG := tbk4 150 rfl rfl
set_option maxRecDepth 20000 in
theorem weX10_far : Cond.selects RX10 yX10_far yX10_far ∈ tbG := tbk4 151 rfl rfl
set_option maxRecDepth 20000 in
theorem wcX10_without : Cond.code MX10_without.1 MX10_without.2.1 MX10_without.2.2.1 MX10_without.2.2.2.1 ∈ tbG := tbk4 165 rfl rfl
set_option maxRecDepth 20000 in
theorem wnX10_without : Cond.instanceMethod yX10_without ∈ tbG := tbk4 163 rfl rfl
set_option maxRecDepth 20000 in
theorem weX10_without : Cond.selects RX10 yX10_without yX10_without ∈ tbG := tbk4 164 rfl rfl
set_option maxRecDepth 20000 in
theorem wcX10_with : Cond.code MX10_with.1 MX10_with.2.1 MX10_with.2.2.1 MX10_with.2.2.2.1 ∈ tbG := tbk4 182 rfl rfl
set_option maxRecDepth 20000 in
theorem wnX10_with : Cond.instanceMethod yX10_with ∈ tbG := tbk4 180 rfl rfl
set_option maxRecDepth 20000 in
theorem weX10_with : Cond.selects RX10 yX10_with yX10_with ∈ tbG := tbk4 181 rfl rfl
set_option maxRecDepth 20000 in
theorem wcX10_isForm : Cond.code MX10_isForm.1 MX10_isForm.2.1 MX10_isForm.2.2.1 MX10_isForm.2.2.2.1 ∈ tbG := tbk4 193 rfl rfl
set_option maxRecDepth 20000 in
theorem wsX10_isForm : Cond.static yX10_isForm ∈ tbG := tbk4 192 rfl rfl
set_option maxRecDepth 20000 in
theorem wcX10_sheet : Cond.code MX10_sheet.1 MX10_sheet.2.1 MX10_sheet.2.2.1 MX10_sheet.2.2.2.1 ∈ tbG := tbk4 190 rfl rfl
set_option maxRecDepth 20000 in
theorem wnX10_sheet : Cond.instanceMethod yX10_sheet ∈ tbG := tbk4 188 rfl rfl
set_option maxRecDepth 20000 in
theorem weX10_sheet : Cond.selects RX10 yX10_sheet yX10_sheet ∈ tbG := tbk4 189 rfl rfl
set_option maxRecDepth 20000 in
theorem wcX10_lose : Cond.code MX10_lose.1 MX10_lose.2.1 MX10_lose.2.2.1 MX10_lose.2.2.2.1 ∈ tbG := tbk4 201 rfl rfl
set_option maxRecDepth 20000 in
theorem wnX10_lose : Cond.instanceMethod yX10_lose ∈ tbG := tbk4 199 rfl rfl
set_option maxRecDepth 20000 in
theorem weX10_lose : Cond.selects RX10 yX10_lose yX10_lose ∈ tbG := tbk4 200 rfl rfl
set_option maxRecDepth 20000 in
theorem wcX10_lay : Cond.code MX10_lay.1 MX10_lay.2.1 MX10_lay.2.2.1 MX10_lay.2.2.2.1 ∈ tbG := tbk4 209 rfl rfl
set_option maxRecDepth 20000 in
theorem wnX10_lay : Cond.instanceMethod yX10_lay ∈ tbG := tbk4 207 rfl rfl
set_option maxRecDepth 20000 in
theorem weX10_lay : Cond.selects RX10 yX10_lay yX10_lay ∈ tbG := tbk4 208 rfl rfl
set_option maxRecDepth 20000 in
theorem wcX10_get : Cond.code MX10_get.1 MX10_get.2.1 MX10_get.2.2.1 MX10_get.2.2.2.1 ∈ tbG := tbk4 222 rfl rfl
set_option maxRecDepth 20000 in
theorem wnX10_get : Cond.instanceMethod yX10_get ∈ tbG := tbk4 220 rfl rfl
set_option maxRecDepth 20000 in
theorem weX10_get : Cond.selects RX10 yX10_get yX10_get ∈ tbG := tbk4 221 rfl rfl
set_option maxRecDepth 20000 in
theorem wcX10_copy : Cond.code MX10_copy.1 MX10_copy.2.1 MX10_copy.2.2.1 MX10_copy.2.2.2.1 ∈ tbG := tbk4 227 rfl rfl
set_option maxRecDepth 20000 in
theorem wnX10_copy : Cond.instanceMethod yX10_copy ∈ tbG := tbk4 225 rfl rfl
set_option maxRecDepth 20000 in
theorem weX10_copy : Cond.selects RX10 yX10_copy yX10_copy ∈ tbG := tbk4 226 rfl rfl
set_option maxRecDepth 20000 in
theorem wcX10_write : Cond.code MX10_write.1 MX10_write.2.1 MX10_write.2.2.1 MX10_write.2.2.2.1 ∈ tbG := tbk5 4 rfl rfl
set_option maxRecDepth 20000 in
theorem wnX10_write : Cond.instanceMethod yX10_write ∈ tbG := tbk5 2 rfl rfl
set_option maxRecDepth 20000 in
theorem weX10_write : Cond.selects RX10 yX10_write yX10_write ∈ tbG := tbk5 3 rfl rfl
set_option maxRecDepth 20000 in
theorem wcX10_count : Cond.code MX10_count.1 MX10_count.2.1 MX10_count.2.2.1 MX10_count.2.2.2.1 ∈ tbG := tbk5 9 rfl rfl
set_option maxRecDepth 20000 in
theorem wnX10_count : Cond.instanceMethod yX10_count ∈ tbG := tbk5 7 rfl rfl
set_option maxRecDepth 20000 in
theorem weX10_count : Cond.selects RX10 yX10_count yX10_count ∈ tbG := tbk5 8 rfl rfl
set_option maxRecDepth 20000 in
theorem wcX10_digestGate : Cond.code MX10_digestGate.1 MX10_digestGate.2.1 MX10_digestGate.2.2.1 MX10_digestGate.2.2.2.1 ∈ tbG := tbk5 36 rfl rfl
set_option maxRecDepth 20000 in
theorem wnX10_digestGate : Cond.instanceMethod yX10_digestGate ∈ tbG := tbk5 35 rfl rfl
theorem weX10_digestGate : Cond.selects RX10 yX10_digestGate yX10_digestGate ∈ tbG := tb_ps 42 (by decide +kernel) rfl
set_option maxRecDepth 20000 in
theorem wcX10_digestWay : Cond.code MX10_digestWay.1 MX10_digestWay.2.1 MX10_digestWay.2.2.1 MX10_digestWay.2.2.2.1 ∈ tbG := tbk5 42 rfl rfl
set_option maxRecDepth 20000 in
theorem wnX10_digestWay : Cond.instanceMethod yX10_digestWay ∈ tbG := tbk5 41 rfl rfl
theorem weX10_digestWay : Cond.selects RX10 yX10_digestWay yX10_digestWay ∈ tbG := tb_ps 43 (by decide +kernel) rfl
set_option maxRecDepth 20000 in
theorem wcX10_digestTown : Cond.code MX10_digestTown.1 MX10_digestTown.2.1 MX10_digestTown.2.2.1 MX10_digestTown.2.2.2.1 ∈ tbG := tbk5 52 rfl rfl
set_option maxRecDepth 20000 in
theorem wnX10_digestTown : Cond.instanceMethod yX10_digestTown ∈ tbG := tbk5 51 rfl rfl
theorem weX10_digestTown : Cond.selects RX10 yX10_digestTown yX10_digestTown ∈ tbG := tb_ps 44 (by decide +kernel) rfl
set_option maxRecDepth 20000 in
theorem wcX10_digest : Cond.code MX10_digest.1 MX10_digest.2.1 MX10_digest.2.2.1 MX10_digest.2.2.2.1 ∈ tbG := tbk5 27 rfl rfl
set_option maxRecDepth 20000 in
theorem wnX10_digest : Cond.instanceMethod yX10_digest ∈ tbG := tbk5 25 rfl rfl
set_option maxRecDepth 20000 in
theorem weX10_digest : Cond.selects RX10 yX10_digest yX10_digest ∈ tbG := tbk5 26 rfl rfl
set_option maxRecDepth 20000 in
theorem wcX11_in : Cond.code MX11_in.1 MX11_in.2.1 MX11_in.2.2.1 MX11_in.2.2.2.1 ∈ tbG := tbk5 181 rfl rfl
set_option maxRecDepth 20000 in
theorem wsX11_in : Cond.static yX11_in ∈ tbG := tbk5 180 rfl rfl
set_option maxRecDepth 20000 in
theorem wcX11_no : Cond.code MX11_no.1 MX11_no.2.1 MX11_no.2.2.1 MX11_no.2.2.2.1 ∈ tbG := tbk6 142 rfl rfl
set_option maxRecDepth 20000 in
theorem wsX11_no : Cond.static yX11_no ∈ tbG := tbk6 141 rfl rfl
set_option maxRecDepth 20000 in
theorem wcX11_isTwo : Cond.code MX11_isTwo.1 MX11_isTwo.2.1 MX11_isTwo.2.2.1 MX11_isTwo.2.2.2.1 ∈ tbG := tbk6 114 rfl rfl
set_option maxRecDepth 20000 in
theorem wsX11_isTwo : Cond.static yX11_isTwo ∈ tbG := tbk6 113 rfl rfl
set_option maxRecDepth 20000 in
theorem wcX11_isTown : Cond.code MX11_isTown.1 MX11_isTown.2.1 MX11_isTown.2.2.1 MX11_isTown.2.2.2.1 ∈ tbG := tbk6 19 rfl rfl
set_option maxRecDepth 20000 in
theorem wsX11_isTown : Cond.static yX11_isTown ∈ tbG := tbk6 18 rfl rfl
set_option maxRecDepth 20000 in
theorem wcX11_met : Cond.code MX11_met.1 MX11_met.2.1 MX11_met.2.2.1 MX11_met.2.2.2.1 ∈ tbG := tbk5 186 rfl rfl
set_option maxRecDepth 20000 in
theorem wnX11_met : Cond.instanceMethod yX11_met ∈ tbG := tbk5 185 rfl rfl
theorem weX11_met : Cond.selects RX11 yX11_met yX11_met ∈ tbG := tb_ps 45 (by decide +kernel) rfl
set_option maxRecDepth 20000 in
theorem wcX11_isSheet : Cond.code MX11_isSheet.1 MX11_isSheet.2.1 MX11_isSheet.2.2.1 MX11_isSheet.2.2.2.1 ∈ tbG := tbk5 177 rfl rfl
set_option maxRecDepth 20000 in
theorem wsX11_isSheet : Cond.static yX11_isSheet ∈ tbG := tbk5 176 rfl rfl
set_option maxRecDepth 20000 in
theorem wcX11_sheet : Cond.code MX11_sheet.1 MX11_sheet.2.1 MX11_sheet.2.2.1 MX11_sheet.2.2.2.1 ∈ tbG := tbk5 174 rfl rfl
set_option maxRecDepth 20000 in
theorem wnX11_sheet : Cond.instanceMethod yX11_sheet ∈ tbG := tbk5 172 rfl rfl
set_option maxRecDepth 20000 in
theorem weX11_sheet : Cond.selects RX11 yX11_sheet yX11_sheet ∈ tbG := tbk5 173 rfl rfl
set_option maxRecDepth 20000 in
theorem wcX11_lose : Cond.code MX11_lose.1 MX11_lose.2.1 MX11_lose.2.2.1 MX11_lose.2.2.2.1 ∈ tbG := tbk5 190 rfl rfl
set_option maxRecDepth 20000 in
theorem wnX11_lose : Cond.instanceMethod yX11_lose ∈ tbG := tbk5 188 rfl rfl
set_option maxRecDepth 20000 in
theorem weX11_lose : Cond.selects RX11 yX11_lose yX11_lose ∈ tbG := tbk5 189 rfl rfl
set_option maxRecDepth 20000 in
theorem wcX11_lacks : Cond.code MX11_lacks.1 MX11_lacks.2.1 MX11_lacks.2.2.1 MX11_lacks.2.2.2.1 ∈ tbG := tbk5 198 rfl rfl
set_option maxRecDepth 20000 in
theorem wnX11_lacks : Cond.instanceMethod yX11_lacks ∈ tbG := tbk5 197 rfl rfl
theorem weX11_lacks : Cond.selects RX11 yX11_lacks yX11_lacks ∈ tbG := tb_ps 46 (by decide +kernel) rfl
set_option maxRecDepth 20000 in
theorem wcX11_cut : Cond.code MX11_cut.1 MX11_cut.2.1 MX11_cut.2.2.1 MX11_cut.2.2.2.1 ∈ tbG := tbk5 201 rfl rfl
set_option maxRecDepth 20000 in
theorem wsX11_cut : Cond.static yX11_cut ∈ tbG := tbk5 200 rfl rfl
set_option maxRecDepth 20000 in
theorem wcX11_lay : Cond.code MX11_lay.1 MX11_lay.2.1 MX11_lay.2.2.1 MX11_lay.2.2.2.1 ∈ tbG := tbk5 194 rfl rfl
set_option maxRecDepth 20000 in
theorem wnX11_lay : Cond.instanceMethod yX11_lay ∈ tbG := tbk5 192 rfl rfl
set_option maxRecDepth 20000 in
theorem weX11_lay : Cond.selects RX11 yX11_lay yX11_lay ∈ tbG := tbk5 193 rfl rfl
set_option maxRecDepth 20000 in
theorem wcX11_get : Cond.code MX11_get.1 MX11_get.2.1 MX11_get.2.2.1 MX11_get.2.2.2.1 ∈ tbG := tbk5 205 rfl rfl
set_option maxRecDepth 20000 in
theorem wnX11_get : Cond.instanceMethod yX11_get ∈ tbG := tbk5 203 rfl rfl
set_option maxRecDepth 20000 in
theorem weX11_get : Cond.selects RX11 yX11_get yX11_get ∈ tbG := tbk5 204 rfl rfl
set_option maxRecDepth 20000 in
theorem wcX11_copy : Cond.code MX11_copy.1 MX11_copy.2.1 MX11_copy.2.2.1 MX11_copy.2.2.2.1 ∈ tbG := tbk5 210 rfl rfl
set_option maxRecDepth 20000 in
theorem wnX11_copy : Cond.instanceMethod yX11_copy ∈ tbG := tbk5 208 rfl rfl
set_option maxRecDepth 20000 in
theorem weX11_copy : Cond.selects RX11 yX11_copy yX11_copy ∈ tbG := tbk5 209 rfl rfl
set_option maxRecDepth 20000 in
theorem wcX11_isText : Cond.code MX11_isText.1 MX11_isText.2.1 MX11_isText.2.2.1 MX11_isText.2.2.2.1 ∈ tbG := tbk5 217 rfl rfl
set_option maxRecDepth 20000 in
theorem wsX11_isText : Cond.static yX11_isText ∈ tbG := tbk5 216 rfl rfl
set_option maxRecDepth 20000 in
theorem wcX11_isWay : Cond.code MX11_isWay.1 MX11_isWay.2.1 MX11_isWay.2.2.1 MX11_isWay.2.2.2.1 ∈ tbG := tbk6 48 rfl rfl
set_option maxRecDepth 20000 in
theorem wsX11_isWay : Cond.static yX11_isWay ∈ tbG := tbk6 47 rfl rfl
set_option maxRecDepth 20000 in
theorem wcX11_from : Cond.code MX11_from.1 MX11_from.2.1 MX11_from.2.2.1 MX11_from.2.2.2.1 ∈ tbG := tbk5 221 rfl rfl
set_option maxRecDepth 20000 in
theorem wsX11_from : Cond.static yX11_from ∈ tbG := tbk5 220 rfl rfl
set_option maxRecDepth 20000 in
theorem wcX11_type : Cond.code MX11_type.1 MX11_type.2.1 MX11_type.2.2.1 MX11_type.2.2.2.1 ∈ tbG := tbk5 214 rfl rfl
set_option maxRecDepth 20000 in
theorem wnX11_type : Cond.instanceMethod yX11_type ∈ tbG := tbk5 212 rfl rfl
set_option maxRecDepth 20000 in
theorem weX11_type : Cond.selects RX11 yX11_type yX11_type ∈ tbG := tbk5 213 rfl rfl
set_option maxRecDepth 20000 in
theorem wcX11_wipe : Cond.code MX11_wipe.1 MX11_wipe.2.1 MX11_wipe.2.2.1 MX11_wipe.2.2.2.1 ∈ tbG := tbk5 225 rfl rfl
set_option maxRecDepth 20000 in
theorem wnX11_wipe : Cond.instanceMethod yX11_wipe ∈ tbG := tbk5 223 rfl rfl
set_option maxRecDepth 20000 in
theorem weX11_wipe : Cond.selects RX11 yX11_wipe yX11_wipe ∈ tbG := tbk5 224 rfl rfl
set_option maxRecDepth 20000 in
theorem wcX11_here : Cond.code MX11_here.1 MX11_here.2.1 MX11_here.2.2.1 MX11_here.2.2.2.1 ∈ tbG := tbk6 9 rfl rfl
set_option maxRecDepth 20000 in
theorem wnX11_here : Cond.instanceMethod yX11_here ∈ tbG := tbk6 8 rfl rfl
theorem weX11_here : Cond.selects RX11 yX11_here yX11_here ∈ tbG := tb_ps 51 (by decide +kernel) rfl
set_option maxRecDepth 20000 in
theorem wcX11_clears : Cond.code MX11_clears.1 MX11_clears.2.1 MX11_clears.2.2.1 MX11_clears.2.2.2.1 ∈ tbG := tbk6 1 rfl rfl
set_option maxRecDepth 20000 in
theorem wnX11_clears : Cond.instanceMethod yX11_clears ∈ tbG := tbk6 0 rfl rfl
theorem weX11_clears : Cond.selects RX11 yX11_clears yX11_clears ∈ tbG := tb_ps 49 (by decide +kernel) rfl
set_option maxRecDepth 20000 in
theorem wcX11_readsRoom : Cond.code MX11_readsRoom.1 MX11_readsRoom.2.1 MX11_readsRoom.2.2.1 MX11_readsRoom.2.2.2.1 ∈ tbG := tbk6 13 rfl rfl
set_option maxRecDepth 20000 in
theorem wnX11_readsRoom : Cond.instanceMethod yX11_readsRoom ∈ tbG := tbk6 12 rfl rfl
theorem weX11_readsRoom : Cond.selects RX11 yX11_readsRoom yX11_readsRoom ∈ tbG := tb_ps 52 (by decide +kernel) rfl
set_option maxRecDepth 20000 in
theorem wcX11_readsPart : Cond.code MX11_readsPart.1 MX11_readsPart.2.1 MX11_readsPart.2.2.1 MX11_readsPart.2.2.2.1 ∈ tbG := tbk6 5 rfl rfl
set_option maxRecDepth 20000 in
theorem wnX11_readsPart : Cond.instanceMethod yX11_readsPart ∈ tbG := tbk6 4 rfl rfl
theorem weX11_readsPart : Cond.selects RX11 yX11_readsPart yX11_readsPart ∈ tbG := tb_ps 50 (by decide +kernel) rfl
set_option maxRecDepth 20000 in
theorem wcX11_readsLand : Cond.code MX11_readsLand.1 MX11_readsLand.2.1 MX11_readsLand.2.2.1 MX11_readsLand.2.2.2.1 ∈ tbG := tbk5 237 rfl rfl
set_option maxRecDepth 20000 in
theorem wnX11_readsLand : Cond.instanceMethod yX11_readsLand ∈ tbG := tbk5 236 rfl rfl
theorem weX11_readsLand : Cond.selects RX11 yX11_readsLand yX11_readsLand ∈ tbG := tb_ps 48 (by decide +kernel) rfl
set_option maxRecDepth 20000 in
theorem wcX11_letterOf : Cond.code MX11_letterOf.1 MX11_letterOf.2.1 MX11_letterOf.2.2.1 MX11_letterOf.2.2.2.1 ∈ tbG := tbk6 24 rfl rfl
set_option maxRecDepth 20000 in
theorem wnX11_letterOf : Cond.instanceMethod yX11_letterOf ∈ tbG := tbk6 23 rfl rfl
theorem weX11_letterOf : Cond.selects RX11 yX11_letterOf yX11_letterOf ∈ tbG := tb_ps 53 (by decide +kernel) rfl
set_option maxRecDepth 20000 in
theorem wcX11_byteOf : Cond.code MX11_byteOf.1 MX11_byteOf.2.1 MX11_byteOf.2.2.1 MX11_byteOf.2.2.2.1 ∈ tbG := tbk6 70 rfl rfl
set_option maxRecDepth 20000 in
theorem wsX11_byteOf : Cond.static yX11_byteOf ∈ tbG := tbk6 69 rfl rfl
set_option maxRecDepth 20000 in
theorem wcX11_faultOf : Cond.code MX11_faultOf.1 MX11_faultOf.2.1 MX11_faultOf.2.2.1 MX11_faultOf.2.2.2.1 ∈ tbG := tbk5 233 rfl rfl
set_option maxRecDepth 20000 in
theorem wnX11_faultOf : Cond.instanceMethod yX11_faultOf ∈ tbG := tbk5 232 rfl rfl
theorem weX11_faultOf : Cond.selects RX11 yX11_faultOf yX11_faultOf ∈ tbG := tb_ps 47 (by decide +kernel) rfl
set_option maxRecDepth 20000 in
theorem wcX11_fault : Cond.code MX11_fault.1 MX11_fault.2.1 MX11_fault.2.2.1 MX11_fault.2.2.2.1 ∈ tbG := tbk5 229 rfl rfl
set_option maxRecDepth 20000 in
theorem wnX11_fault : Cond.instanceMethod yX11_fault ∈ tbG := tbk5 227 rfl rfl
set_option maxRecDepth 20000 in
theorem weX11_fault : Cond.selects RX11 yX11_fault yX11_fault ∈ tbG := tbk5 228 rfl rfl
set_option maxRecDepth 20000 in
theorem wcX11_start : Cond.code MX11_start.1 MX11_start.2.1 MX11_start.2.2.1 MX11_start.2.2.2.1 ∈ tbG := tbk6 87 rfl rfl
set_option maxRecDepth 20000 in
theorem wnX11_start : Cond.instanceMethod yX11_start ∈ tbG := tbk6 86 rfl rfl
theorem weX11_start : Cond.selects RX11 yX11_start yX11_start ∈ tbG := tb_ps 61 (by decide +kernel) rfl
set_option maxRecDepth 20000 in
theorem wcX11_end : Cond.code MX11_end.1 MX11_end.2.1 MX11_end.2.2.1 MX11_end.2.2.2.1 ∈ tbG := tbk6 91 rfl rfl
set_option maxRecDepth 20000 in
theorem wnX11_end : Cond.instanceMethod yX11_end ∈ tbG := tbk6 90 rfl rfl
theorem weX11_end : Cond.selects RX11 yX11_end yX11_end ∈ tbG := tb_ps 62 (by decide +kernel) rfl
set_option maxRecDepth 20000 in
theorem wcX11_back : Cond.code MX11_back.1 MX11_back.2.1 MX11_back.2.2.1 MX11_back.2.2.2.1 ∈ tbG := tbk6 67 rfl rfl
set_option maxRecDepth 20000 in
theorem wsX11_back : Cond.static yX11_back ∈ tbG := tbk6 66 rfl rfl
set_option maxRecDepth 20000 in
theorem wcX11_isShut : Cond.code MX11_isShut.1 MX11_isShut.2.1 MX11_isShut.2.2.1 MX11_isShut.2.2.2.1 ∈ tbG := tbk6 32 rfl rfl
set_option maxRecDepth 20000 in
theorem wnX11_isShut : Cond.instanceMethod yX11_isShut ∈ tbG := tbk6 31 rfl rfl
theorem weX11_isShut : Cond.selects RX11 yX11_isShut yX11_isShut ∈ tbG := tb_ps 54 (by decide +kernel) rfl
set_option maxRecDepth 20000 in
theorem wcX11_gate : Cond.code MX11_gate.1 MX11_gate.2.1 MX11_gate.2.2.1 MX11_gate.2.2.2.1 ∈ tbG := tbk6 28 rfl rfl
set_option maxRecDepth 20000 in
theorem wnX11_gate : Cond.instanceMethod yX11_gate ∈ tbG := tbk6 26 rfl rfl
set_option maxRecDepth 20000 in
theorem weX11_gate : Cond.selects RX11 yX11_gate yX11_gate ∈ tbG := tbk6 27 rfl rfl
set_option maxRecDepth 20000 in
theorem wcX11_room : Cond.code MX11_room.1 MX11_room.2.1 MX11_room.2.2.1 MX11_room.2.2.2.1 ∈ tbG := tbk6 36 rfl rfl
set_option maxRecDepth 20000 in
theorem wnX11_room : Cond.instanceMethod yX11_room ∈ tbG := tbk6 34 rfl rfl
set_option maxRecDepth 20000 in
theorem weX11_room : Cond.selects RX11 yX11_room yX11_room ∈ tbG := tbk6 35 rfl rfl
set_option maxRecDepth 20000 in
theorem wcX11_shut : Cond.code MX11_shut.1 MX11_shut.2.1 MX11_shut.2.2.1 MX11_shut.2.2.2.1 ∈ tbG := tbk6 40 rfl rfl
set_option maxRecDepth 20000 in
theorem wnX11_shut : Cond.instanceMethod yX11_shut ∈ tbG := tbk6 38 rfl rfl
set_option maxRecDepth 20000 in
theorem weX11_shut : Cond.selects RX11 yX11_shut yX11_shut ∈ tbG := tbk6 39 rfl rfl
set_option maxRecDepth 20000 in
theorem wcX11_stamp : Cond.code MX11_stamp.1 MX11_stamp.2.1 MX11_stamp.2.2.1 MX11_stamp.2.2.2.1 ∈ tbG := tbk6 64 rfl rfl
set_option maxRecDepth 20000 in
theorem wnX11_stamp : Cond.instanceMethod yX11_stamp ∈ tbG := tbk6 63 rfl rfl
theorem weX11_stamp : Cond.selects RX11 yX11_stamp yX11_stamp ∈ tbG := tb_ps 58 (by decide +kernel) rfl
set_option maxRecDepth 20000 in
theorem wcX11_lengthOf : Cond.code MX11_lengthOf.1 MX11_lengthOf.2.1 MX11_lengthOf.2.2.1 MX11_lengthOf.2.2.2.1 ∈ tbG := tbk6 56 rfl rfl
set_option maxRecDepth 20000 in
theorem wnX11_lengthOf : Cond.instanceMethod yX11_lengthOf ∈ tbG := tbk6 55 rfl rfl
theorem weX11_lengthOf : Cond.selects RX11 yX11_lengthOf yX11_lengthOf ∈ tbG := tb_ps 56 (by decide +kernel) rfl
set_option maxRecDepth 20000 in
theorem wcX11_letterAt : Cond.code MX11_letterAt.1 MX11_letterAt.2.1 MX11_letterAt.2.2.1 MX11_letterAt.2.2.2.1 ∈ tbG := tbk6 60 rfl rfl
set_option maxRecDepth 20000 in
theorem wnX11_letterAt : Cond.instanceMethod yX11_letterAt ∈ tbG := tbk6 59 rfl rfl
theorem weX11_letterAt : Cond.selects RX11 yX11_letterAt yX11_letterAt ∈ tbG := tb_ps 57 (by decide +kernel) rfl
set_option maxRecDepth 20000 in
theorem wcX11_findPaper : Cond.code MX11_findPaper.1 MX11_findPaper.2.1 MX11_findPaper.2.2.1 MX11_findPaper.2.2.2.1 ∈ tbG := tbk6 52 rfl rfl
set_option maxRecDepth 20000 in
theorem wnX11_findPaper : Cond.instanceMethod yX11_findPaper ∈ tbG := tbk6 51 rfl rfl
theorem weX11_findPaper : Cond.selects RX11 yX11_findPaper yX11_findPaper ∈ tbG := tb_ps 55 (by decide +kernel) rfl
set_option maxRecDepth 20000 in
theorem wcX11_paper : Cond.code MX11_paper.1 MX11_paper.2.1 MX11_paper.2.2.1 MX11_paper.2.2.2.1 ∈ tbG := tbk6 45 rfl rfl
set_option maxRecDepth 20000 in
theorem wnX11_paper : Cond.instanceMethod yX11_paper ∈ tbG := tbk6 43 rfl rfl
set_option maxRecDepth 20000 in
theorem weX11_paper : Cond.selects RX11 yX11_paper yX11_paper ∈ tbG := tbk6 44 rfl rfl
set_option maxRecDepth 20000 in
theorem wcX11_isBegun : Cond.code MX11_isBegun.1 MX11_isBegun.2.1 MX11_isBegun.2.2.1 MX11_isBegun.2.2.2.1 ∈ tbG := tbk6 78 rfl rfl
set_option maxRecDepth 20000 in
theorem wnX11_isBegun : Cond.instanceMethod yX11_isBegun ∈ tbG := tbk6 77 rfl rfl
theorem weX11_isBegun : Cond.selects RX11 yX11_isBegun yX11_isBegun ∈ tbG := tb_ps 59 (by decide +kernel) rfl
set_option maxRecDepth 20000 in
theorem wcX11_judgedOf : Cond.code MX11_judgedOf.1 MX11_judgedOf.2.1 MX11_judgedOf.2.2.1 MX11_judgedOf.2.2.2.1 ∈ tbG := tbk6 83 rfl rfl
set_option maxRecDepth 20000 in
theorem wnX11_judgedOf : Cond.instanceMethod yX11_judgedOf ∈ tbG := tbk6 82 rfl rfl
theorem weX11_judgedOf : Cond.selects RX11 yX11_judgedOf yX11_judgedOf ∈ tbG := tb_ps 60 (by decide +kernel) rfl
set_option maxRecDepth 20000 in
theorem wcX11_judged : Cond.code MX11_judged.1 MX11_judged.2.1 MX11_judged.2.2.1 MX11_judged.2.2.2.1 ∈ tbG := tbk6 74 rfl rfl
set_option maxRecDepth 20000 in
theorem wnX11_judged : Cond.instanceMethod yX11_judged ∈ tbG := tbk6 72 rfl rfl
set_option maxRecDepth 20000 in
theorem weX11_judged : Cond.selects RX11 yX11_judged yX11_judged ∈ tbG := tbk6 73 rfl rfl
set_option maxRecDepth 20000 in
theorem wcX11_alike : Cond.code MX11_alike.1 MX11_alike.2.1 MX11_alike.2.2.1 MX11_alike.2.2.2.1 ∈ tbG := tbk6 103 rfl rfl
set_option maxRecDepth 20000 in
theorem wnX11_alike : Cond.instanceMethod yX11_alike ∈ tbG := tbk6 102 rfl rfl
theorem weX11_alike : Cond.selects RX11 yX11_alike yX11_alike ∈ tbG := tb_ps 64 (by decide +kernel) rfl
set_option maxRecDepth 20000 in
theorem wcX11_sameOf : Cond.code MX11_sameOf.1 MX11_sameOf.2.1 MX11_sameOf.2.2.1 MX11_sameOf.2.2.2.1 ∈ tbG := tbk6 99 rfl rfl
set_option maxRecDepth 20000 in
theorem wnX11_sameOf : Cond.instanceMethod yX11_sameOf ∈ tbG := tbk6 98 rfl rfl
theorem weX11_sameOf : Cond.selects RX11 yX11_sameOf yX11_sameOf ∈ tbG := tb_ps 63 (by decide +kernel) rfl
set_option maxRecDepth 20000 in
theorem wcX11_same : Cond.code MX11_same.1 MX11_same.2.1 MX11_same.2.2.1 MX11_same.2.2.2.1 ∈ tbG := tbk6 95 rfl rfl
set_option maxRecDepth 20000 in
theorem wnX11_same : Cond.instanceMethod yX11_same ∈ tbG := tbk6 93 rfl rfl
set_option maxRecDepth 20000 in
theorem weX11_same : Cond.selects RX11 yX11_same yX11_same ∈ tbG := tbk6 94 rfl rfl
set_option maxRecDepth 20000 in
theorem wcX11_isUnseen : Cond.code MX11_isUnseen.1 MX11_isUnseen.2.1 MX11_isUnseen.2.2.1 MX11_isUnseen.2.2.2.1 ∈ tbG := tbk6 130 rfl rfl
set_option maxRecDepth 20000 in
theorem wnX11_isUnseen : Cond.instanceMethod yX11_isUnseen ∈ tbG := tbk6 129 rfl rfl
theorem weX11_isUnseen : Cond.selects RX11 yX11_isUnseen yX11_isUnseen ∈ tbG := tb_ps 69 (by decide +kernel) rfl
set_option maxRecDepth 20000 in
theorem wcX11_findUnseen : Cond.code MX11_findUnseen.1 MX11_findUnseen.2.1 MX11_findUnseen.2.2.1 MX11_findUnseen.2.2.2.1 ∈ tbG := tbk6 126 rfl rfl
set_option maxRecDepth 20000 in
theorem wnX11_findUnseen : Cond.instanceMethod yX11_findUnseen ∈ tbG := tbk6 125 rfl rfl
theorem weX11_findUnseen : Cond.selects RX11 yX11_findUnseen yX11_findUnseen ∈ tbG := tb_ps 68 (by decide +kernel) rfl
set_option maxRecDepth 20000 in
theorem wcX11_findBetween : Cond.code MX11_findBetween.1 MX11_findBetween.2.1 MX11_findBetween.2.2.1 MX11_findBetween.2.2.2.1 ∈ tbG := tbk6 134 rfl rfl
set_option maxRecDepth 20000 in
theorem wnX11_findBetween : Cond.instanceMethod yX11_findBetween ∈ tbG := tbk6 133 rfl rfl
theorem weX11_findBetween : Cond.selects RX11 yX11_findBetween yX11_findBetween ∈ tbG := tb_ps 70 (by decide +kernel) rfl
set_option maxRecDepth 20000 in
theorem wcX11_goesOn : Cond.code MX11_goesOn.1 MX11_goesOn.2.1 MX11_goesOn.2.2.1 MX11_goesOn.2.2.2.1 ∈ tbG := tbk6 138 rfl rfl
set_option maxRecDepth 20000 in
theorem wnX11_goesOn : Cond.instanceMethod yX11_goesOn ∈ tbG := tbk6 137 rfl rfl
theorem weX11_goesOn : Cond.selects RX11 yX11_goesOn yX11_goesOn ∈ tbG := tb_ps 71 (by decide +kernel) rfl
set_option maxRecDepth 20000 in
theorem wcX11_findShortest : Cond.code MX11_findShortest.1 MX11_findShortest.2.1 MX11_findShortest.2.2.1 MX11_findShortest.2.2.2.1 ∈ tbG := tbk6 122 rfl rfl
set_option maxRecDepth 20000 in
theorem wnX11_findShortest : Cond.instanceMethod yX11_findShortest ∈ tbG := tbk6 121 rfl rfl
theorem weX11_findShortest : Cond.selects RX11 yX11_findShortest yX11_findShortest ∈ tbG := tb_ps 67 (by decide +kernel) rfl
set_option maxRecDepth 20000 in
theorem wcX11_shortestOf : Cond.code MX11_shortestOf.1 MX11_shortestOf.2.1 MX11_shortestOf.2.2.1 MX11_shortestOf.2.2.2.1 ∈ tbG := tbk6 118 rfl rfl
set_option maxRecDepth 20000 in
theorem wnX11_shortestOf : Cond.instanceMethod yX11_shortestOf ∈ tbG := tbk6 117 rfl rfl
theorem weX11_shortestOf : Cond.selects RX11 yX11_shortestOf yX11_shortestOf ∈ tbG := tb_ps 66 (by decide +kernel) rfl
set_option maxRecDepth 20000 in
theorem wcX11_isAsked : Cond.code MX11_isAsked.1 MX11_isAsked.2.1 MX11_isAsked.2.2.1 MX11_isAsked.2.2.2.1 ∈ tbG := tbk6 111 rfl rfl
set_option maxRecDepth 20000 in
theorem wnX11_isAsked : Cond.instanceMethod yX11_isAsked ∈ tbG := tbk6 110 rfl rfl
theorem weX11_isAsked : Cond.selects RX11 yX11_isAsked yX11_isAsked ∈ tbG := tb_ps 65 (by decide +kernel) rfl
set_option maxRecDepth 20000 in
theorem wcX11_shortest : Cond.code MX11_shortest.1 MX11_shortest.2.1 MX11_shortest.2.2.1 MX11_shortest.2.2.2.1 ∈ tbG := tbk6 107 rfl rfl
set_option maxRecDepth 20000 in
theorem wnX11_shortest : Cond.instanceMethod yX11_shortest ∈ tbG := tbk6 105 rfl rfl
set_option maxRecDepth 20000 in
theorem weX11_shortest : Cond.selects RX11 yX11_shortest yX11_shortest ∈ tbG := tbk6 106 rfl rfl
set_option maxRecDepth 20000 in
theorem wcX11_leastUnseen : Cond.code MX11_leastUnseen.1 MX11_leastUnseen.2.1 MX11_leastUnseen.2.2.1 MX11_leastUnseen.2.2.2.1 ∈ tbG := tbk6 151 rfl rfl
set_option maxRecDepth 20000 in
theorem wnX11_leastUnseen : Cond.instanceMethod yX11_leastUnseen ∈ tbG := tbk6 150 rfl rfl
theorem weX11_leastUnseen : Cond.selects RX11 yX11_leastUnseen yX11_leastUnseen ∈ tbG := tb_ps 72 (by decide +kernel) rfl
set_option maxRecDepth 20000 in
theorem wcX11_letter : Cond.code MX11_letter.1 MX11_letter.2.1 MX11_letter.2.2.1 MX11_letter.2.2.2.1 ∈ tbG := tbk6 147 rfl rfl
set_option maxRecDepth 20000 in
theorem wnX11_letter : Cond.instanceMethod yX11_letter ∈ tbG := tbk6 145 rfl rfl
set_option maxRecDepth 20000 in
theorem weX11_letter : Cond.selects RX11 yX11_letter yX11_letter ∈ tbG := tbk6 146 rfl rfl
set_option maxRecDepth 20000 in
theorem wcX11_findErrands : Cond.code MX11_findErrands.1 MX11_findErrands.2.1 MX11_findErrands.2.2.1 MX11_findErrands.2.2.2.1 ∈ tbG := tbk6 163 rfl rfl
set_option maxRecDepth 20000 in
theorem wnX11_findErrands : Cond.instanceMethod yX11_findErrands ∈ tbG := tbk6 162 rfl rfl
theorem weX11_findErrands : Cond.selects RX11 yX11_findErrands yX11_findErrands ∈ tbG := tb_ps 74 (by decide +kernel) rfl
set_option maxRecDepth 20000 in
theorem wcX11_stampsTo : Cond.code MX11_stampsTo.1 MX11_stampsTo.2.1 MX11_stampsTo.2.2.1 MX11_stampsTo.2.2.2.1 ∈ tbG := tbk6 167 rfl rfl
set_option maxRecDepth 20000 in
theorem wnX11_stampsTo : Cond.instanceMethod yX11_stampsTo ∈ tbG := tbk6 166 rfl rfl
theorem weX11_stampsTo : Cond.selects RX11 yX11_stampsTo yX11_stampsTo ∈ tbG := tb_ps 75 (by decide +kernel) rfl
set_option maxRecDepth 20000 in
theorem wcX11_errandsOf : Cond.code MX11_errandsOf.1 MX11_errandsOf.2.1 MX11_errandsOf.2.2.1 MX11_errandsOf.2.2.2.1 ∈ tbG := tbk6 159 rfl rfl
set_option maxRecDepth 20000 in
theorem wnX11_errandsOf : Cond.instanceMethod yX11_errandsOf ∈ tbG := tbk6 158 rfl rfl
theorem weX11_errandsOf : Cond.selects RX11 yX11_errandsOf yX11_errandsOf ∈ tbG := tb_ps 73 (by decide +kernel) rfl
set_option maxRecDepth 20000 in
theorem wcX11_errands : Cond.code MX11_errands.1 MX11_errands.2.1 MX11_errands.2.2.1 MX11_errands.2.2.2.1 ∈ tbG := tbk6 155 rfl rfl
set_option maxRecDepth 20000 in
theorem wnX11_errands : Cond.instanceMethod yX11_errands ∈ tbG := tbk6 153 rfl rfl
set_option maxRecDepth 20000 in
theorem weX11_errands : Cond.selects RX11 yX11_errands yX11_errands ∈ tbG := tbk6 154 rfl rfl
set_option maxRecDepth 20000 in
theorem wcX11_cleanOf : Cond.code MX11_cleanOf.1 MX11_cleanOf.2.1 MX11_cleanOf.2.2.1 MX11_cleanOf.2.2.2.1 ∈ tbG := tbk6 175 rfl rfl
set_option maxRecDepth 20000 in
theorem wnX11_cleanOf : Cond.instanceMethod yX11_cleanOf ∈ tbG := tbk6 174 rfl rfl
theorem weX11_cleanOf : Cond.selects RX11 yX11_cleanOf yX11_cleanOf ∈ tbG := tb_ps 76 (by decide +kernel) rfl
set_option maxRecDepth 20000 in
theorem wcX11_clean : Cond.code MX11_clean.1 MX11_clean.2.1 MX11_clean.2.2.1 MX11_clean.2.2.2.1 ∈ tbG := tbk6 171 rfl rfl
set_option maxRecDepth 20000 in
theorem wnX11_clean : Cond.instanceMethod yX11_clean ∈ tbG := tbk6 169 rfl rfl
set_option maxRecDepth 20000 in
theorem weX11_clean : Cond.selects RX11 yX11_clean yX11_clean ∈ tbG := tbk6 170 rfl rfl
set_option maxRecDepth 20000 in
theorem wcX11_foundOf : Cond.code MX11_foundOf.1 MX11_foundOf.2.1 MX11_foundOf.2.2.1 MX11_foundOf.2.2.2.1 ∈ tbG := tbk6 183 rfl rfl
set_option maxRecDepth 20000 in
theorem wnX11_foundOf : Cond.instanceMethod yX11_foundOf ∈ tbG := tbk6 182 rfl rfl
theorem weX11_foundOf : Cond.selects RX11 yX11_foundOf yX11_foundOf ∈ tbG := tb_ps 77 (by decide +kernel) rfl
set_option maxRecDepth 20000 in
theorem wcX11_found : Cond.code MX11_found.1 MX11_found.2.1 MX11_found.2.2.1 MX11_found.2.2.2.1 ∈ tbG := tbk6 179 rfl rfl
set_option maxRecDepth 20000 in
theorem wnX11_found : Cond.instanceMethod yX11_found ∈ tbG := tbk6 177 rfl rfl
set_option maxRecDepth 20000 in
theorem weX11_found : Cond.selects RX11 yX11_found yX11_found ∈ tbG := tbk6 178 rfl rfl
set_option maxRecDepth 20000 in
theorem wcX11_index : Cond.code MX11_index.1 MX11_index.2.1 MX11_index.2.2.1 MX11_index.2.2.2.1 ∈ tbG := tbk6 203 rfl rfl
set_option maxRecDepth 20000 in
theorem wsX11_index : Cond.static yX11_index ∈ tbG := tbk6 202 rfl rfl
set_option maxRecDepth 20000 in
theorem wcX11_closedBy : Cond.code MX11_closedBy.1 MX11_closedBy.2.1 MX11_closedBy.2.2.1 MX11_closedBy.2.2.2.1 ∈ tbG := tbk6 200 rfl rfl
set_option maxRecDepth 20000 in
theorem wnX11_closedBy : Cond.instanceMethod yX11_closedBy ∈ tbG := tbk6 199 rfl rfl
theorem weX11_closedBy : Cond.selects RX11 yX11_closedBy yX11_closedBy ∈ tbG := tb_ps 80 (by decide +kernel) rfl
set_option maxRecDepth 20000 in
theorem wcX11_findClosed : Cond.code MX11_findClosed.1 MX11_findClosed.2.1 MX11_findClosed.2.2.1 MX11_findClosed.2.2.2.1 ∈ tbG := tbk6 196 rfl rfl
set_option maxRecDepth 20000 in
theorem wnX11_findClosed : Cond.instanceMethod yX11_findClosed ∈ tbG := tbk6 195 rfl rfl
theorem weX11_findClosed : Cond.selects RX11 yX11_findClosed yX11_findClosed ∈ tbG := tb_ps 79 (by decide +kernel) rfl
set_option maxRecDepth 20000 in
theorem wcX11_follows : Cond.code MX11_follows.1 MX11_follows.2.1 MX11_follows.2.2.1 MX11_follows.2.2.2.1 ∈ tbG := tbk6 207 rfl rfl
set_option maxRecDepth 20000 in
theorem wnX11_follows : Cond.instanceMethod yX11_follows ∈ tbG := tbk6 206 rfl rfl
theorem weX11_follows : Cond.selects RX11 yX11_follows yX11_follows ∈ tbG := tb_ps 81 (by decide +kernel) rfl
set_option maxRecDepth 20000 in
theorem wcX11_manyOf : Cond.code MX11_manyOf.1 MX11_manyOf.2.1 MX11_manyOf.2.2.1 MX11_manyOf.2.2.2.1 ∈ tbG := tbk6 192 rfl rfl
set_option maxRecDepth 20000 in
theorem wnX11_manyOf : Cond.instanceMethod yX11_manyOf ∈ tbG := tbk6 191 rfl rfl
theorem weX11_manyOf : Cond.selects RX11 yX11_manyOf yX11_manyOf ∈ tbG := tb_ps 78 (by decide +kernel) rfl
set_option maxRecDepth 20000 in
theorem wcX11_many : Cond.code MX11_many.1 MX11_many.2.1 MX11_many.2.2.1 MX11_many.2.2.2.1 ∈ tbG := tbk6 187 rfl rfl
set_option maxRecDepth 20000 in
theorem wnX11_many : Cond.instanceMethod yX11_many ∈ tbG := tbk6 185 rfl rfl
set_option maxRecDepth 20000 in
theorem weX11_many : Cond.selects RX11 yX11_many yX11_many ∈ tbG := tbk6 186 rfl rfl
set_option maxRecDepth 20000 in
theorem wcX11_lists : Cond.code MX11_lists.1 MX11_lists.2.1 MX11_lists.2.2.1 MX11_lists.2.2.2.1 ∈ tbG := tbk6 215 rfl rfl
set_option maxRecDepth 20000 in
theorem wnX11_lists : Cond.instanceMethod yX11_lists ∈ tbG := tbk6 214 rfl rfl
theorem weX11_lists : Cond.selects RX11 yX11_lists yX11_lists ∈ tbG := tb_ps 82 (by decide +kernel) rfl
set_option maxRecDepth 20000 in
theorem wcX11_list : Cond.code MX11_list.1 MX11_list.2.1 MX11_list.2.2.1 MX11_list.2.2.2.1 ∈ tbG := tbk6 211 rfl rfl
set_option maxRecDepth 20000 in
theorem wnX11_list : Cond.instanceMethod yX11_list ∈ tbG := tbk6 209 rfl rfl
set_option maxRecDepth 20000 in
theorem weX11_list : Cond.selects RX11 yX11_list yX11_list ∈ tbG := tbk6 210 rfl rfl
set_option maxRecDepth 20000 in
theorem wcX11_read : Cond.code MX11_read.1 MX11_read.2.1 MX11_read.2.2.1 MX11_read.2.2.2.1 ∈ tbG := tbk6 219 rfl rfl
set_option maxRecDepth 20000 in
theorem wnX11_read : Cond.instanceMethod yX11_read ∈ tbG := tbk6 217 rfl rfl
set_option maxRecDepth 20000 in
theorem weX11_read : Cond.selects RX11 yX11_read yX11_read ∈ tbG := tbk6 218 rfl rfl
set_option maxRecDepth 20000 in
theorem wcX11_unlist : Cond.code MX11_unlist.1 MX11_unlist.2.1 MX11_unlist.2.2.1 MX11_unlist.2.2.2.1 ∈ tbG := tbk6 223 rfl rfl
set_option maxRecDepth 20000 in
theorem wnX11_unlist : Cond.instanceMethod yX11_unlist ∈ tbG := tbk6 221 rfl rfl
set_option maxRecDepth 20000 in
theorem weX11_unlist : Cond.selects RX11 yX11_unlist yX11_unlist ∈ tbG := tbk6 222 rfl rfl
set_option maxRecDepth 20000 in
theorem wcX11_listedAt : Cond.code MX11_listedAt.1 MX11_listedAt.2.1 MX11_listedAt.2.2.1 MX11_listedAt.2.2.2.1 ∈ tbG := tbk6 232 rfl rfl
set_option maxRecDepth 20000 in
theorem wnX11_listedAt : Cond.instanceMethod yX11_listedAt ∈ tbG := tbk6 231 rfl rfl
theorem weX11_listedAt : Cond.selects RX11 yX11_listedAt yX11_listedAt ∈ tbG := tb_ps 83 (by decide +kernel) rfl
set_option maxRecDepth 20000 in
theorem wcX11_listed : Cond.code MX11_listed.1 MX11_listed.2.1 MX11_listed.2.2.1 MX11_listed.2.2.2.1 ∈ tbG := tbk6 227 rfl rfl
set_option maxRecDepth 20000 in
theorem wnX11_listed : Cond.instanceMethod yX11_listed ∈ tbG := tbk6 225 rfl rfl
set_option maxRecDepth 20000 in
theorem weX11_listed : Cond.selects RX11 yX11_listed yX11_listed ∈ tbG := tbk6 226 rfl rfl
set_option maxRecDepth 20000 in
theorem wcX11_letsBy : Cond.code MX11_letsBy.1 MX11_letsBy.2.1 MX11_letsBy.2.2.1 MX11_letsBy.2.2.2.1 ∈ tbG := tbk7 4 rfl rfl
set_option maxRecDepth 20000 in
theorem wnX11_letsBy : Cond.instanceMethod yX11_letsBy ∈ tbG := tbk7 3 rfl rfl
theorem weX11_letsBy : Cond.selects RX11 yX11_letsBy yX11_letsBy ∈ tbG := tb_ps 84 (by decide +kernel) rfl
set_option maxRecDepth 20000 in
theorem wcX11_arePlaces : Cond.code MX11_arePlaces.1 MX11_arePlaces.2.1 MX11_arePlaces.2.2.1 MX11_arePlaces.2.2.2.1 ∈ tbG := tbk6 239 rfl rfl
set_option maxRecDepth 20000 in
theorem wsX11_arePlaces : Cond.static yX11_arePlaces ∈ tbG := tbk6 238 rfl rfl
set_option maxRecDepth 20000 in
theorem wcX11_lets : Cond.code MX11_lets.1 MX11_lets.2.1 MX11_lets.2.2.1 MX11_lets.2.2.2.1 ∈ tbG := tbk6 236 rfl rfl
set_option maxRecDepth 20000 in
theorem wnX11_lets : Cond.instanceMethod yX11_lets ∈ tbG := tbk6 234 rfl rfl
set_option maxRecDepth 20000 in
theorem weX11_lets : Cond.selects RX11 yX11_lets yX11_lets ∈ tbG := tbk6 235 rfl rfl
set_option maxRecDepth 20000 in
theorem wcX11_slipsOf : Cond.code MX11_slipsOf.1 MX11_slipsOf.2.1 MX11_slipsOf.2.2.1 MX11_slipsOf.2.2.2.1 ∈ tbG := tbk7 12 rfl rfl
set_option maxRecDepth 20000 in
theorem wnX11_slipsOf : Cond.instanceMethod yX11_slipsOf ∈ tbG := tbk7 11 rfl rfl
theorem weX11_slipsOf : Cond.selects RX11 yX11_slipsOf yX11_slipsOf ∈ tbG := tb_ps 85 (by decide +kernel) rfl
set_option maxRecDepth 20000 in
theorem wcX11_slips : Cond.code MX11_slips.1 MX11_slips.2.1 MX11_slips.2.2.1 MX11_slips.2.2.2.1 ∈ tbG := tbk7 8 rfl rfl
set_option maxRecDepth 20000 in
theorem wnX11_slips : Cond.instanceMethod yX11_slips ∈ tbG := tbk7 6 rfl rfl
set_option maxRecDepth 20000 in
theorem weX11_slips : Cond.selects RX11 yX11_slips yX11_slips ∈ tbG := tbk7 7 rfl rfl
set_option maxRecDepth 20000 in
theorem wcX11_ones : Cond.code MX11_ones.1 MX11_ones.2.1 MX11_ones.2.2.1 MX11_ones.2.2.2.1 ∈ tbG := tbk7 23 rfl rfl
set_option maxRecDepth 20000 in
theorem wsX11_ones : Cond.static yX11_ones ∈ tbG := tbk7 22 rfl rfl
set_option maxRecDepth 20000 in
theorem wcX11_fewestNow : Cond.code MX11_fewestNow.1 MX11_fewestNow.2.1 MX11_fewestNow.2.2.1 MX11_fewestNow.2.2.2.1 ∈ tbG := tbk7 20 rfl rfl
set_option maxRecDepth 20000 in
theorem wnX11_fewestNow : Cond.instanceMethod yX11_fewestNow ∈ tbG := tbk7 19 rfl rfl
theorem weX11_fewestNow : Cond.selects RX11 yX11_fewestNow yX11_fewestNow ∈ tbG := tb_ps 86 (by decide +kernel) rfl
set_option maxRecDepth 20000 in
theorem wcX11_fewest : Cond.code MX11_fewest.1 MX11_fewest.2.1 MX11_fewest.2.2.1 MX11_fewest.2.2.2.1 ∈ tbG := tbk7 16 rfl rfl
set_option maxRecDepth 20000 in
theorem wnX11_fewest : Cond.instanceMethod yX11_fewest ∈ tbG := tbk7 14 rfl rfl
set_option maxRecDepth 20000 in
theorem weX11_fewest : Cond.selects RX11 yX11_fewest yX11_fewest ∈ tbG := tbk7 15 rfl rfl
set_option maxRecDepth 20000 in
theorem wcX11_joins : Cond.code MX11_joins.1 MX11_joins.2.1 MX11_joins.2.2.1 MX11_joins.2.2.2.1 ∈ tbG := tbk7 39 rfl rfl
set_option maxRecDepth 20000 in
theorem wnX11_joins : Cond.instanceMethod yX11_joins ∈ tbG := tbk7 38 rfl rfl
theorem weX11_joins : Cond.selects RX11 yX11_joins yX11_joins ∈ tbG := tb_ps 89 (by decide +kernel) rfl
set_option maxRecDepth 20000 in
theorem wcX11_findFar : Cond.code MX11_findFar.1 MX11_findFar.2.1 MX11_findFar.2.2.1 MX11_findFar.2.2.2.1 ∈ tbG := tbk7 35 rfl rfl
set_option maxRecDepth 20000 in
theorem wnX11_findFar : Cond.instanceMethod yX11_findFar ∈ tbG := tbk7 34 rfl rfl
theorem weX11_findFar : Cond.selects RX11 yX11_findFar yX11_findFar ∈ tbG := tb_ps 88 (by decide +kernel) rfl
set_option maxRecDepth 20000 in
theorem wcX11_farOf : Cond.code MX11_farOf.1 MX11_farOf.2.1 MX11_farOf.2.2.1 MX11_farOf.2.2.2.1 ∈ tbG := tbk7 31 rfl rfl
set_option maxRecDepth 20000 in
theorem wnX11_farOf : Cond.instanceMethod yX11_farOf ∈ tbG := tbk7 30 rfl rfl
theorem weX11_farOf : Cond.selects RX11 yX11_farOf yX11_farOf ∈ tbG := tb_ps 87 (by decide +kernel) rfl
set_option maxRecDepth 20000 in
theorem wcX11_far : Cond.code MX11_far.1 MX11_far.2.1 MX11_far.2.2.1 MX11_far.2.2.2.1 ∈ tbG := tbk7 27 rfl rfl
set_option maxRecDepth 20000 in
theorem wnX11_far : Cond.instanceMethod yX11_far ∈ tbG := tbk7 25 rfl rfl
set_option maxRecDepth 20000 in
theorem weX11_far : Cond.selects RX11 yX11_far yX11_far ∈ tbG := tbk7 26 rfl rfl
set_option maxRecDepth 20000 in
theorem wcX11_changed : Cond.code MX11_changed.1 MX11_changed.2.1 MX11_changed.2.2.1 MX11_changed.2.2.2.1 ∈ tbG := tbk7 47 rfl rfl
set_option maxRecDepth 20000 in
theorem wnX11_changed : Cond.instanceMethod yX11_changed ∈ tbG := tbk7 46 rfl rfl
theorem weX11_changed : Cond.selects RX11 yX11_changed yX11_changed ∈ tbG := tb_ps 90 (by decide +kernel) rfl
set_option maxRecDepth 20000 in
theorem wcX11_without : Cond.code MX11_without.1 MX11_without.2.1 MX11_without.2.2.1 MX11_without.2.2.2.1 ∈ tbG := tbk7 43 rfl rfl
set_option maxRecDepth 20000 in
theorem wnX11_without : Cond.instanceMethod yX11_without ∈ tbG := tbk7 41 rfl rfl
set_option maxRecDepth 20000 in
theorem weX11_without : Cond.selects RX11 yX11_without yX11_without ∈ tbG := tbk7 42 rfl rfl
set_option maxRecDepth 20000 in
theorem wcX11_with : Cond.code MX11_with.1 MX11_with.2.1 MX11_with.2.2.1 MX11_with.2.2.2.1 ∈ tbG := tbk7 51 rfl rfl
set_option maxRecDepth 20000 in
theorem wnX11_with : Cond.instanceMethod yX11_with ∈ tbG := tbk7 49 rfl rfl
set_option maxRecDepth 20000 in
theorem weX11_with : Cond.selects RX11 yX11_with yX11_with ∈ tbG := tbk7 50 rfl rfl
set_option maxRecDepth 20000 in
theorem wcX11_write : Cond.code MX11_write.1 MX11_write.2.1 MX11_write.2.2.1 MX11_write.2.2.2.1 ∈ tbG := tbk7 55 rfl rfl
set_option maxRecDepth 20000 in
theorem wnX11_write : Cond.instanceMethod yX11_write ∈ tbG := tbk7 53 rfl rfl
set_option maxRecDepth 20000 in
theorem weX11_write : Cond.selects RX11 yX11_write yX11_write ∈ tbG := tbk7 54 rfl rfl
set_option maxRecDepth 20000 in
theorem wcX11_count : Cond.code MX11_count.1 MX11_count.2.1 MX11_count.2.2.1 MX11_count.2.2.2.1 ∈ tbG := tbk7 59 rfl rfl
set_option maxRecDepth 20000 in
theorem wnX11_count : Cond.instanceMethod yX11_count ∈ tbG := tbk7 57 rfl rfl
set_option maxRecDepth 20000 in
theorem weX11_count : Cond.selects RX11 yX11_count yX11_count ∈ tbG := tbk7 58 rfl rfl
set_option maxRecDepth 20000 in
theorem wcX11_digest : Cond.code MX11_digest.1 MX11_digest.2.1 MX11_digest.2.2.1 MX11_digest.2.2.2.1 ∈ tbG := tbk7 63 rfl rfl
set_option maxRecDepth 20000 in
theorem wnX11_digest : Cond.instanceMethod yX11_digest ∈ tbG := tbk7 61 rfl rfl
set_option maxRecDepth 20000 in
theorem weX11_digest : Cond.selects RX11 yX11_digest yX11_digest ∈ tbG := tbk7 62 rfl rfl
set_option maxRecDepth 20000 in
theorem wlRX10_89 : Cond.methodLink RX10 89 yX10_isText ∈ tbG := tbk2 56 rfl rfl
theorem okRX10_89 : okS RX10 89 MX10_isText := ⟨wcX10_isText, wlRX10_89, wsX10_isText, wi0, nh0.1, nh0.2⟩
set_option maxRecDepth 20000 in
theorem wlRX10_93 : Cond.methodLink RX10 93 yX8_isFull ∈ tbG := tbk2 59 rfl rfl
theorem okRX10_93 : okV RX10 93 MX8_isFull := okV.of wcX8_isFull wlRX10_93 wnX8_isFull weX8_isFull wi9 nh9.1 nh9.2
set_option maxRecDepth 20000 in
theorem wlRX10_97 : Cond.methodLink RX10 97 yX8_append ∈ tbG := tbk2 63 rfl rfl
theorem okRX10_97 : okV RX10 97 MX8_append := okV.of wcX8_append wlRX10_97 wnX8_append weX8_append wi9 nh9.1 nh9.2
set_option maxRecDepth 20000 in
theorem wlRX10_100 : Cond.methodLink RX10 100 yX10_learnIfLand ∈ tbG := tbk2 67 rfl rfl
theorem okRX10_100 : okV RX10 100 MX10_learnIfLand := okV.of wcX10_learnIfLand wlRX10_100 wnX10_learnIfLand weX10_learnIfLand wi0 nh0.1 nh0.2
set_option maxRecDepth 20000 in
theorem wlRX10_103 : Cond.methodLink RX10 103 yX8_size ∈ tbG := tbk2 105 rfl rfl
theorem okRX10_103 : okV RX10 103 MX8_size := okV.of wcX8_size wlRX10_103 wnX8_size weX8_size wi9 nh9.1 nh9.2
set_option maxRecDepth 20000 in
theorem wlRX10_107 : Cond.methodLink RX10 107 yX8_empty ∈ tbG := tbk2 110 rfl rfl
theorem okRX10_107 : okV RX10 107 MX8_empty := okV.of wcX8_empty wlRX10_107 wnX8_empty weX8_empty wi9 nh9.1 nh9.2
set_option maxRecDepth 20000 in
theorem wlRX10_110 : Cond.methodLink RX10 110 yX3_faultPlace ∈ tbG := tbk2 118 rfl rfl
theorem okRX10_110 : okV RX10 110 MX3_faultPlace := okV.of wcX3_faultPlace wlRX10_110 wnX3_faultPlace weX3_faultPlace wi4 nh4.1 nh4.2
set_option maxRecDepth 20000 in
theorem wlRX10_113 : Cond.methodLink RX10 113 yX10_wayFault ∈ tbG := tbk2 122 rfl rfl
theorem okRX10_113 : okV RX10 113 MX10_wayFault := okV.of wcX10_wayFault wlRX10_113 wnX10_wayFault weX10_wayFault wi0 nh0.1 nh0.2
set_option maxRecDepth 20000 in
theorem wlRX10_117 : Cond.methodLink RX10 117 yX3_hasGate ∈ tbG := tbk2 135 rfl rfl
theorem okRX10_117 : okV RX10 117 MX3_hasGate := okV.of wcX3_hasGate wlRX10_117 wnX3_hasGate weX3_hasGate wi4 nh4.1 nh4.2
set_option maxRecDepth 20000 in
theorem wlRX10_120 : Cond.methodLink RX10 120 yX3_from ∈ tbG := tbk2 139 rfl rfl
theorem okRX10_120 : okV RX10 120 MX3_from := okV.of wcX3_from wlRX10_120 wnX3_from weX3_from wi4 nh4.1 nh4.2
set_option maxRecDepth 20000 in
theorem wlRX10_124 : Cond.methodLink RX10 124 yX3_to ∈ tbG := tbk2 143 rfl rfl
theorem okRX10_124 : okV RX10 124 MX3_to := okV.of wcX3_to wlRX10_124 wnX3_to weX3_to wi4 nh4.1 nh4.2
set_option maxRecDepth 20000 in
theorem wlRX10_127 : Cond.methodLink RX10 127 yX3_isWatched ∈ tbG := tbk2 147 rfl rfl
theorem okRX10_127 : okV RX10 127 MX3_isWatched := okV.of wcX3_isWatched wlRX10_127 wnX3_isWatched weX3_isWatched wi4 nh4.1 nh4.2
set_option maxRecDepth 20000 in
theorem wlRX10_130 : Cond.methodLink RX10 130 yX3_isOpen ∈ tbG := tbk2 151 rfl rfl
theorem okRX10_130 : okV RX10 130 MX3_isOpen := okV.of wcX3_isOpen wlRX10_130 wnX3_isOpen weX3_isOpen wi4 nh4.1 nh4.2
set_option maxRecDepth 20000 in
theorem wlRX10_133 : Cond.methodLink RX10 133 yX3_roomTold ∈ tbG := tbk2 159 rfl rfl
theorem okRX10_133 : okV RX10 133 MX3_roomTold := okV.of wcX3_roomTold wlRX10_133 wnX3_roomTold weX3_roomTold wi4 nh4.1 nh4.2
set_option maxRecDepth 20000 in
theorem wlRX10_136 : Cond.methodLink RX10 136 yX3_close ∈ tbG := tbk2 167 rfl rfl
theorem okRX10_136 : okV RX10 136 MX3_close := okV.of wcX3_close wlRX10_136 wnX3_close weX3_close wi4 nh4.1 nh4.2
set_option maxRecDepth 20000 in
theorem wlRX10_139 : Cond.methodLink RX10 139 yX10_isWay ∈ tbG := tbk2 175 rfl rfl
theorem okRX10_139 : okS RX10 139 MX10_isWay := ⟨wcX10_isWay, wlRX10_139, wsX10_isWay, wi0, nh0.1, nh0.2⟩
set_option maxRecDepth 20000 in
theorem wlRX10_142 : Cond.methodLink RX10 142 yX10_stampWay ∈ tbG := tbk2 178 rfl rfl
theorem okRX10_142 : okV RX10 142 MX10_stampWay := okV.of wcX10_stampWay wlRX10_142 wnX10_stampWay weX10_stampWay wi0 nh0.1 nh0.2
set_option maxRecDepth 20000 in
theorem wlRX10_146 : Cond.methodLink RX10 146 yX5_size ∈ tbG := tbk2 194 rfl rfl
theorem okRX10_146 : okV RX10 146 MX5_size := okV.of wcX5_size wlRX10_146 wnX5_size weX5_size wi6 nh6.1 nh6.2
set_option maxRecDepth 20000 in
theorem wlRX10_147 : Cond.methodLink RX10 147 yX5_at ∈ tbG := tbk2 198 rfl rfl
theorem okRX10_147 : okV RX10 147 MX5_at := okV.of wcX5_at wlRX10_147 wnX5_at weX5_at wi6 nh6.1 nh6.2
set_option maxRecDepth 20000 in
theorem wlRX10_150 : Cond.methodLink RX10 150 yX10_byteOf ∈ tbG := tbk2 202 rfl rfl
theorem okRX10_150 : okS RX10 150 MX10_byteOf := ⟨wcX10_byteOf, wlRX10_150, wsX10_byteOf, wi0, nh0.1, nh0.2⟩
set_option maxRecDepth 20000 in
theorem wlRX10_153 : Cond.methodLink RX10 153 yX10_isTown ∈ tbG := tbk2 209 rfl rfl
theorem okRX10_153 : okS RX10 153 MX10_isTown := ⟨wcX10_isTown, wlRX10_153, wsX10_isTown, wi0, nh0.1, nh0.2⟩
set_option maxRecDepth 20000 in
theorem wlRX10_156 : Cond.methodLink RX10 156 yX10_isWayOrClean ∈ tbG := tbk2 212 rfl rfl
theorem okRX10_156 : okS RX10 156 MX10_isWayOrClean := ⟨wcX10_isWayOrClean, wlRX10_156, wsX10_isWayOrClean, wi0, nh0.1, nh0.2⟩
set_option maxRecDepth 20000 in
theorem wlRX10_159 : Cond.methodLink RX10 159 yX10_judgeWay ∈ tbG := tbk2 215 rfl rfl
theorem okRX10_159 : okV RX10 159 MX10_judgeWay := okV.of wcX10_judgeWay wlRX10_159 wnX10_judgeWay weX10_judgeWay wi0 nh0.1 nh0.2
set_option maxRecDepth 20000 in
theorem wlRX10_163 : Cond.methodLink RX10 163 yX2_verdict ∈ tbG := tbk3 13 rfl rfl
theorem okRX10_163 : okV RX10 163 MX2_verdict := okV.of wcX2_verdict wlRX10_163 wnX2_verdict weX2_verdict wi3 nh3.1 nh3.2
set_option maxRecDepth 20000 in
theorem wlRX10_166 : Cond.methodLink RX10 166 yX5_alike ∈ tbG := tbk3 21 rfl rfl
theorem okRX10_166 : okV RX10 166 MX5_alike := okV.of wcX5_alike wlRX10_166 wnX5_alike weX5_alike wi6 nh6.1 nh6.2
set_option maxRecDepth 20000 in
theorem wlRX10_170 : Cond.methodLink RX10 170 yX10_areEnds ∈ tbG := tbk3 32 rfl rfl
theorem okRX10_170 : okS RX10 170 MX10_areEnds := ⟨wcX10_areEnds, wlRX10_170, wsX10_areEnds, wi0, nh0.1, nh0.2⟩
set_option maxRecDepth 20000 in
theorem wlRX10_174 : Cond.methodLink RX10 174 yX10_longRefusal ∈ tbG := tbk3 35 rfl rfl
theorem okRX10_174 : okS RX10 174 MX10_longRefusal := ⟨wcX10_longRefusal, wlRX10_174, wsX10_longRefusal, wi0, nh0.1, nh0.2⟩
set_option maxRecDepth 20000 in
theorem wlRX10_178 : Cond.methodLink RX10 178 yX10_planRoute ∈ tbG := tbk3 39 rfl rfl
theorem okRX10_178 : okV RX10 178 MX10_planRoute := okV.of wcX10_planRoute wlRX10_178 wnX10_planRoute weX10_planRoute wi0 nh0.1 nh0.2
set_option maxRecDepth 20000 in
theorem wlRX10_182 : Cond.methodLink RX10 182 yX6_ways ∈ tbG := tbk3 106 rfl rfl
theorem okRX10_182 : okV RX10 182 MX6_ways := okV.of wcX6_ways wlRX10_182 wnX6_ways weX6_ways wi7 nh7.1 nh7.2
set_option maxRecDepth 20000 in
theorem wlRX10_186 : Cond.methodLink RX10 186 yX6_leastLetter ∈ tbG := tbk3 138 rfl rfl
theorem okRX10_186 : okV RX10 186 MX6_leastLetter := okV.of wcX6_leastLetter wlRX10_186 wnX6_leastLetter weX6_leastLetter wi7 nh7.1 nh7.2
set_option maxRecDepth 20000 in
theorem wlRX10_190 : Cond.methodLink RX10 190 yX1_fullest ∈ tbG := tbk3 154 rfl rfl
theorem okRX10_190 : okV RX10 190 MX1_fullest := okV.of wcX1_fullest wlRX10_190 wnX1_fullest weX1_fullest wi2 nh2.1 nh2.2
set_option maxRecDepth 20000 in
theorem wlRX10_194 : Cond.methodLink RX10 194 yX1_stepsTo ∈ tbG := tbk3 185 rfl rfl
theorem okRX10_194 : okV RX10 194 MX1_stepsTo := okV.of wcX1_stepsTo wlRX10_194 wnX1_stepsTo weX1_stepsTo wi2 nh2.1 nh2.2
set_option maxRecDepth 20000 in
theorem wlRX10_197 : Cond.methodLink RX10 197 yX1_homely ∈ tbG := tbk3 193 rfl rfl
theorem okRX10_197 : okV RX10 197 MX1_homely := okV.of wcX1_homely wlRX10_197 wnX1_homely weX1_homely wi2 nh2.1 nh2.2
set_option maxRecDepth 20000 in
theorem wlRX10_200 : Cond.methodLink RX10 200 yX5_empty ∈ tbG := tbk2 182 rfl rfl
theorem okRX10_200 : okV RX10 200 MX5_empty := okV.of wcX5_empty wlRX10_200 wnX5_empty weX5_empty wi6 nh6.1 nh6.2
set_option maxRecDepth 20000 in
theorem wlRX10_201 : Cond.methodLink RX10 201 yX6_plan ∈ tbG := tbk3 44 rfl rfl
theorem okRX10_201 : okV RX10 201 MX6_plan := okV.of wcX6_plan wlRX10_201 wnX6_plan weX6_plan wi7 nh7.1 nh7.2
set_option maxRecDepth 20000 in
theorem wlRX10_205 : Cond.methodLink RX10 205 yX6_starts ∈ tbG := tbk3 201 rfl rfl
theorem okRX10_205 : okV RX10 205 MX6_starts := okV.of wcX6_starts wlRX10_205 wnX6_starts weX6_starts wi7 nh7.1 nh7.2
set_option maxRecDepth 20000 in
theorem wlRX10_208 : Cond.methodLink RX10 208 yX6_ends ∈ tbG := tbk3 215 rfl rfl
theorem okRX10_208 : okV RX10 208 MX6_ends := okV.of wcX6_ends wlRX10_208 wnX6_ends weX6_ends wi7 nh7.1 nh7.2
set_option maxRecDepth 20000 in
theorem wlRX10_211 : Cond.methodLink RX10 211 yX9_number ∈ tbG := tbk3 223 rfl rfl
theorem okRX10_211 : okV RX10 211 MX9_number := okV.of wcX9_number wlRX10_211 wnX9_number weX9_number wi10 nh10.1 nh10.2
set_option maxRecDepth 20000 in
theorem wlRX10_215 : Cond.methodLink RX10 215 yX4_isFull ∈ tbG := tbk4 32 rfl rfl
theorem okRX10_215 : okV RX10 215 MX4_isFull := okV.of wcX4_isFull wlRX10_215 wnX4_isFull weX4_isFull wi5 nh5.1 nh5.2
set_option maxRecDepth 20000 in
theorem wlRX10_216 : Cond.methodLink RX10 216 yX4_append ∈ tbG := tbk4 36 rfl rfl
theorem okRX10_216 : okV RX10 216 MX4_append := okV.of wcX4_append wlRX10_216 wnX4_append weX4_append wi5 nh5.1 nh5.2
set_option maxRecDepth 20000 in
theorem wlRX10_219 : Cond.methodLink RX10 219 yX4_size ∈ tbG := tbk4 43 rfl rfl
theorem okRX10_219 : okV RX10 219 MX4_size := okV.of wcX4_size wlRX10_219 wnX4_size weX4_size wi5 nh5.1 nh5.2
set_option maxRecDepth 20000 in
theorem wlRX10_220 : Cond.methodLink RX10 220 yX10_isSheet ∈ tbG := tbk4 51 rfl rfl
theorem okRX10_220 : okS RX10 220 MX10_isSheet := ⟨wcX10_isSheet, wlRX10_220, wsX10_isSheet, wi0, nh0.1, nh0.2⟩
set_option maxRecDepth 20000 in
theorem wlRX10_223 : Cond.methodLink RX10 223 yX7_isLost ∈ tbG := tbk4 54 rfl rfl
theorem okRX10_223 : okV RX10 223 MX7_isLost := okV.of wcX7_isLost wlRX10_223 wnX7_isLost weX7_isLost wi8 nh8.1 nh8.2
set_option maxRecDepth 20000 in
theorem wlRX10_226 : Cond.methodLink RX10 226 yX7_find ∈ tbG := tbk4 58 rfl rfl
theorem okRX10_226 : okV RX10 226 MX7_find := okV.of wcX7_find wlRX10_226 wnX7_find weX7_find wi8 nh8.1 nh8.2
set_option maxRecDepth 20000 in
theorem wlRX10_229 : Cond.methodLink RX10 229 yX7_size ∈ tbG := tbk4 62 rfl rfl
theorem okRX10_229 : okV RX10 229 MX7_size := okV.of wcX7_size wlRX10_229 wnX7_size weX7_size wi8 nh8.1 nh8.2
set_option maxRecDepth 20000 in
theorem wlRX10_231 : Cond.methodLink RX10 231 yX7_item ∈ tbG := tbk4 66 rfl rfl
theorem okRX10_231 : okV RX10 231 MX7_item := okV.of wcX7_item wlRX10_231 wnX7_item weX7_item wi8 nh8.1 nh8.2
set_option maxRecDepth 20000 in
theorem wlRX10_234 : Cond.methodLink RX10 234 yX3_letterOf ∈ tbG := tbk2 127 rfl rfl
theorem okRX10_234 : okV RX10 234 MX3_letterOf := okV.of wcX3_letterOf wlRX10_234 wnX3_letterOf weX3_letterOf wi4 nh4.1 nh4.2
set_option maxRecDepth 20000 in
theorem wlRX10_237 : Cond.methodLink RX10 237 yX10_listIfRoom ∈ tbG := tbk4 70 rfl rfl
theorem okRX10_237 : okV RX10 237 MX10_listIfRoom := okV.of wcX10_listIfRoom wlRX10_237 wnX10_listIfRoom weX10_listIfRoom wi0 nh0.1 nh0.2
set_option maxRecDepth 20000 in
theorem wlRX10_241 : Cond.methodLink RX10 241 yX5_stamp ∈ tbG := tbk2 186 rfl rfl
theorem okRX10_241 : okV RX10 241 MX5_stamp := okV.of wcX5_stamp wlRX10_241 wnX5_stamp weX5_stamp wi6 nh6.1 nh6.2
set_option maxRecDepth 20000 in
theorem wlRX10_244 : Cond.methodLink RX10 244 yX4_dropLast ∈ tbG := tbk4 78 rfl rfl
theorem okRX10_244 : okV RX10 244 MX4_dropLast := okV.of wcX4_dropLast wlRX10_244 wnX4_dropLast weX4_dropLast wi5 nh5.1 nh5.2
set_option maxRecDepth 20000 in
theorem wlRX10_247 : Cond.methodLink RX10 247 yX4_stampsOf ∈ tbG := tbk4 87 rfl rfl
theorem okRX10_247 : okV RX10 247 MX4_stampsOf := okV.of wcX4_stampsOf wlRX10_247 wnX4_stampsOf weX4_stampsOf wi5 nh5.1 nh5.2
set_option maxRecDepth 20000 in
theorem wlRX10_250 : Cond.methodLink RX10 250 yX4_stampAt ∈ tbG := tbk4 91 rfl rfl
theorem okRX10_250 : okV RX10 250 MX4_stampAt := okV.of wcX4_stampAt wlRX10_250 wnX4_stampAt weX4_stampAt wi5 nh5.1 nh5.2
set_option maxRecDepth 20000 in
theorem wlRX10_253 : Cond.methodLink RX10 253 yX10_arePlaces ∈ tbG := tbk4 99 rfl rfl
theorem okRX10_253 : okS RX10 253 MX10_arePlaces := ⟨wcX10_arePlaces, wlRX10_253, wsX10_arePlaces, wi0, nh0.1, nh0.2⟩
set_option maxRecDepth 20000 in
theorem wlRX10_256 : Cond.methodLink RX10 256 yX4_letsBy ∈ tbG := tbk4 102 rfl rfl
theorem okRX10_256 : okV RX10 256 MX4_letsBy := okV.of wcX4_letsBy wlRX10_256 wnX4_letsBy weX4_letsBy wi5 nh5.1 nh5.2
set_option maxRecDepth 20000 in
theorem wlRX10_260 : Cond.methodLink RX10 260 yX4_slipping ∈ tbG := tbk4 115 rfl rfl
theorem okRX10_260 : okV RX10 260 MX4_slipping := okV.of wcX4_slipping wlRX10_260 wnX4_slipping weX4_slipping wi5 nh5.1 nh5.2
set_option maxRecDepth 20000 in
theorem wlRX10_263 : Cond.methodLink RX10 263 yX4_fewestPlaces ∈ tbG := tbk4 131 rfl rfl
theorem okRX10_263 : okV RX10 263 MX4_fewestPlaces := okV.of wcX4_fewestPlaces wlRX10_263 wnX4_fewestPlaces weX4_fewestPlaces wi5 nh5.1 nh5.2
set_option maxRecDepth 20000 in
theorem wlRX10_266 : Cond.methodLink RX10 266 yX3_openGates ∈ tbG := tbk4 153 rfl rfl
theorem okRX10_266 : okV RX10 266 MX3_openGates := okV.of wcX3_openGates wlRX10_266 wnX3_openGates weX3_openGates wi4 nh4.1 nh4.2
set_option maxRecDepth 20000 in
theorem wlRX10_269 : Cond.methodLink RX10 269 yX0_measureFrom ∈ tbG := tbk4 157 rfl rfl
theorem okRX10_269 : okV RX10 269 MX0_measureFrom := okV.of wcX0_measureFrom wlRX10_269 wnX0_measureFrom weX0_measureFrom wi1 nh1.1 nh1.2
set_option maxRecDepth 20000 in
theorem wlRX10_273 : Cond.methodLink RX10 273 yX0_between ∈ tbG := tbk4 161 rfl rfl
theorem okRX10_273 : okV RX10 273 MX0_between := okV.of wcX0_between wlRX10_273 wnX0_between weX0_between wi1 nh1.1 nh1.2
set_option maxRecDepth 20000 in
theorem wlRX10_276 : Cond.methodLink RX10 276 yX0_measure ∈ tbG := tbk4 166 rfl rfl
theorem okRX10_276 : okV RX10 276 MX0_measure := okV.of wcX0_measure wlRX10_276 wnX0_measure weX0_measure wi1 nh1.1 nh1.2
set_option maxRecDepth 20000 in
theorem wlRX10_280 : Cond.methodLink RX10 280 yX0_pairsUnlike ∈ tbG := tbk4 167 rfl rfl
theorem okRX10_280 : okV RX10 280 MX0_pairsUnlike := okV.of wcX0_pairsUnlike wlRX10_280 wnX0_pairsUnlike weX0_pairsUnlike wi1 nh1.1 nh1.2
set_option maxRecDepth 20000 in
theorem wlRX10_284 : Cond.methodLink RX10 284 yX0_mostUnlike ∈ tbG := tbk4 171 rfl rfl
theorem okRX10_284 : okV RX10 284 MX0_mostUnlike := okV.of wcX0_mostUnlike wlRX10_284 wnX0_mostUnlike weX0_mostUnlike wi1 nh1.1 nh1.2
set_option maxRecDepth 20000 in
theorem wlRX10_287 : Cond.methodLink RX10 287 yX0_measureLinked ∈ tbG := tbk4 183 rfl rfl
theorem okRX10_287 : okV RX10 287 MX0_measureLinked := okV.of wcX0_measureLinked wlRX10_287 wnX0_measureLinked weX0_measureLinked wi1 nh1.1 nh1.2
set_option maxRecDepth 20000 in
theorem wlRX10_291 : Cond.methodLink RX10 291 yX10_isForm ∈ tbG := tbk4 191 rfl rfl
theorem okRX10_291 : okS RX10 291 MX10_isForm := ⟨wcX10_isForm, wlRX10_291, wsX10_isForm, wi0, nh0.1, nh0.2⟩
set_option maxRecDepth 20000 in
theorem wlRX10_294 : Cond.methodLink RX10 294 yX7_make ∈ tbG := tbk4 194 rfl rfl
theorem okRX10_294 : okV RX10 294 MX7_make := okV.of wcX7_make wlRX10_294 wnX7_make weX7_make wi8 nh8.1 nh8.2
set_option maxRecDepth 20000 in
theorem wlRX10_297 : Cond.methodLink RX10 297 yX7_drop ∈ tbG := tbk4 202 rfl rfl
theorem okRX10_297 : okV RX10 297 MX7_drop := okV.of wcX7_drop wlRX10_297 wnX7_drop weX7_drop wi8 nh8.1 nh8.2
set_option maxRecDepth 20000 in
theorem wlRX10_300 : Cond.methodLink RX10 300 yX7_findingAt ∈ tbG := tbk4 210 rfl rfl
theorem okRX10_300 : okV RX10 300 MX7_findingAt := okV.of wcX7_findingAt wlRX10_300 wnX7_findingAt weX7_findingAt wi8 nh8.1 nh8.2
set_option maxRecDepth 20000 in
theorem wlRX10_303 : Cond.methodLink RX10 303 yX7_put ∈ tbG := tbk4 215 rfl rfl
theorem okRX10_303 : okV RX10 303 MX7_put := okV.of wcX7_put wlRX10_303 wnX7_put weX7_put wi8 nh8.1 nh8.2
set_option maxRecDepth 20000 in
theorem wlRX10_307 : Cond.methodLink RX10 307 yX7_findingOfCopy ∈ tbG := tbk4 228 rfl rfl
theorem okRX10_307 : okV RX10 307 MX7_findingOfCopy := okV.of wcX7_findingOfCopy wlRX10_307 wnX7_findingOfCopy weX7_findingOfCopy wi8 nh8.1 nh8.2
set_option maxRecDepth 20000 in
theorem wlRX10_311 : Cond.methodLink RX10 311 yX7_move ∈ tbG := tbk4 236 rfl rfl
theorem okRX10_311 : okV RX10 311 MX7_move := okV.of wcX7_move wlRX10_311 wnX7_move weX7_move wi8 nh8.1 nh8.2
set_option maxRecDepth 20000 in
theorem wlRX10_315 : Cond.methodLink RX10 315 yJ9_min_7cf53 ∈ tbG := tbk5 5 rfl rfl
theorem okRX10_315 : okS RX10 315 MJ9_min_7cf53 := ⟨wcJ9_min_7cf53, wlRX10_315, wsJ9_min_7cf53, wi14, nh14.1, nh14.2⟩
set_option maxRecDepth 20000 in
theorem wlRX10_320 : Cond.methodLink RX10 320 yX3_gatesTold ∈ tbG := tbk5 10 rfl rfl
theorem okRX10_320 : okV RX10 320 MX3_gatesTold := okV.of wcX3_gatesTold wlRX10_320 wnX3_gatesTold weX3_gatesTold wi4 nh4.1 nh4.2
set_option maxRecDepth 20000 in
theorem wlRX10_323 : Cond.methodLink RX10 323 yX3_gatesWatched ∈ tbG := tbk5 11 rfl rfl
theorem okRX10_323 : okV RX10 323 MX3_gatesWatched := okV.of wcX3_gatesWatched wlRX10_323 wnX3_gatesWatched weX3_gatesWatched wi4 nh4.1 nh4.2
set_option maxRecDepth 20000 in
theorem wlRX10_326 : Cond.methodLink RX10 326 yX4_goodOnes ∈ tbG := tbk5 16 rfl rfl
theorem okRX10_326 : okV RX10 326 MX4_goodOnes := okV.of wcX4_goodOnes wlRX10_326 wnX4_goodOnes weX4_goodOnes wi5 nh5.1 nh5.2
set_option maxRecDepth 20000 in
theorem wlRX10_329 : Cond.methodLink RX10 329 yX7_latestFinding ∈ tbG := tbk5 20 rfl rfl
theorem okRX10_329 : okV RX10 329 MX7_latestFinding := okV.of wcX7_latestFinding wlRX10_329 wnX7_latestFinding weX7_latestFinding wi8 nh8.1 nh8.2
set_option maxRecDepth 20000 in
theorem wlRX10_336 : Cond.methodLink RX10 336 yX10_count ∈ tbG := tbk5 30 rfl rfl
theorem okRX10_336 : okV RX10 336 MX10_count := okV.of wcX10_count wlRX10_336 wnX10_count weX10_count wi0 nh0.1 nh0.2
set_option maxRecDepth 20000 in
theorem wlRX10_339 : Cond.methodLink RX10 339 yX10_fault ∈ tbG := tbk5 31 rfl rfl
theorem okRX10_339 : okV RX10 339 MX10_fault := okV.of wcX10_fault wlRX10_339 wnX10_fault weX10_fault wi0 nh0.1 nh0.2
set_option maxRecDepth 20000 in
theorem wlRX10_342 : Cond.methodLink RX10 342 yX10_room ∈ tbG := tbk5 32 rfl rfl
theorem okRX10_342 : okV RX10 342 MX10_room := okV.of wcX10_room wlRX10_342 wnX10_room weX10_room wi0 nh0.1 nh0.2
set_option maxRecDepth 20000 in
theorem wlRX10_345 : Cond.methodLink RX10 345 yX10_digestGate ∈ tbG := tbk5 33 rfl rfl
theorem okRX10_345 : okV RX10 345 MX10_digestGate := okV.of wcX10_digestGate wlRX10_345 wnX10_digestGate weX10_digestGate wi0 nh0.1 nh0.2
set_option maxRecDepth 20000 in
theorem wlRX10_349 : Cond.methodLink RX10 349 yX10_digestWay ∈ tbG := tbk5 39 rfl rfl
theorem okRX10_349 : okV RX10 349 MX10_digestWay := okV.of wcX10_digestWay wlRX10_349 wnX10_digestWay weX10_digestWay wi0 nh0.1 nh0.2
set_option maxRecDepth 20000 in
theorem wlRX10_352 : Cond.methodLink RX10 352 yX10_same ∈ tbG := tbk5 48 rfl rfl
theorem okRX10_352 : okV RX10 352 MX10_same := okV.of wcX10_same wlRX10_352 wnX10_same weX10_same wi0 nh0.1 nh0.2
set_option maxRecDepth 20000 in
theorem wlRX10_355 : Cond.methodLink RX10 355 yX10_digestTown ∈ tbG := tbk5 49 rfl rfl
theorem okRX10_355 : okV RX10 355 MX10_digestTown := okV.of wcX10_digestTown wlRX10_355 wnX10_digestTown weX10_digestTown wi0 nh0.1 nh0.2
set_option maxRecDepth 20000 in
theorem wlRX10_358 : Cond.methodLink RX10 358 yX10_slips ∈ tbG := tbk5 56 rfl rfl
theorem okRX10_358 : okV RX10 358 MX10_slips := okV.of wcX10_slips wlRX10_358 wnX10_slips weX10_slips wi0 nh0.1 nh0.2
set_option maxRecDepth 20000 in
theorem wlRX10_361 : Cond.methodLink RX10 361 yX10_fewest ∈ tbG := tbk5 57 rfl rfl
theorem okRX10_361 : okV RX10 361 MX10_fewest := okV.of wcX10_fewest wlRX10_361 wnX10_fewest weX10_fewest wi0 nh0.1 nh0.2
set_option maxRecDepth 20000 in
theorem wlRX10_364 : Cond.methodLink RX10 364 yX10_gate ∈ tbG := tbk5 37 rfl rfl
theorem okRX10_364 : okV RX10 364 MX10_gate := okV.of wcX10_gate wlRX10_364 wnX10_gate weX10_gate wi0 nh0.1 nh0.2
set_option maxRecDepth 20000 in
theorem wlRX10_367 : Cond.methodLink RX10 367 yX10_without ∈ tbG := tbk5 38 rfl rfl
theorem okRX10_367 : okV RX10 367 MX10_without := okV.of wcX10_without wlRX10_367 wnX10_without weX10_without wi0 nh0.1 nh0.2
set_option maxRecDepth 20000 in
theorem wlRX10_370 : Cond.methodLink RX10 370 yX10_paper ∈ tbG := tbk5 43 rfl rfl
theorem okRX10_370 : okV RX10 370 MX10_paper := okV.of wcX10_paper wlRX10_370 wnX10_paper weX10_paper wi0 nh0.1 nh0.2
set_option maxRecDepth 20000 in
theorem wlRX10_373 : Cond.methodLink RX10 373 yX10_judged ∈ tbG := tbk5 44 rfl rfl
theorem okRX10_373 : okV RX10 373 MX10_judged := okV.of wcX10_judged wlRX10_373 wnX10_judged weX10_judged wi0 nh0.1 nh0.2
set_option maxRecDepth 20000 in
theorem wlRX10_376 : Cond.methodLink RX10 376 yX10_found ∈ tbG := tbk5 45 rfl rfl
theorem okRX10_376 : okV RX10 376 MX10_found := okV.of wcX10_found wlRX10_376 wnX10_found weX10_found wi0 nh0.1 nh0.2
set_option maxRecDepth 20000 in
theorem wlRX10_379 : Cond.methodLink RX10 379 yX10_shortest ∈ tbG := tbk5 46 rfl rfl
theorem okRX10_379 : okV RX10 379 MX10_shortest := okV.of wcX10_shortest wlRX10_379 wnX10_shortest weX10_shortest wi0 nh0.1 nh0.2
set_option maxRecDepth 20000 in
theorem wlRX10_383 : Cond.methodLink RX10 383 yX10_many ∈ tbG := tbk5 47 rfl rfl
theorem okRX10_383 : okV RX10 383 MX10_many := okV.of wcX10_many wlRX10_383 wnX10_many weX10_many wi0 nh0.1 nh0.2
set_option maxRecDepth 20000 in
theorem wlRX10_387 : Cond.methodLink RX10 387 yX10_clean ∈ tbG := tbk5 53 rfl rfl
theorem okRX10_387 : okV RX10 387 MX10_clean := okV.of wcX10_clean wlRX10_387 wnX10_clean weX10_clean wi0 nh0.1 nh0.2
set_option maxRecDepth 20000 in
theorem wlRX10_390 : Cond.methodLink RX10 390 yX10_far ∈ tbG := tbk5 54 rfl rfl
theorem okRX10_390 : okV RX10 390 MX10_far := okV.of wcX10_far wlRX10_390 wnX10_far weX10_far wi0 nh0.1 nh0.2
set_option maxRecDepth 20000 in
theorem wlRX10_393 : Cond.methodLink RX10 393 yX10_errands ∈ tbG := tbk5 55 rfl rfl
theorem okRX10_393 : okV RX10 393 MX10_errands := okV.of wcX10_errands wlRX10_393 wnX10_errands weX10_errands wi0 nh0.1 nh0.2
set_option maxRecDepth 20000 in
theorem wlRX10_397 : Cond.methodLink RX10 397 yX3_learn ∈ tbG := tbk2 71 rfl rfl
theorem okRX10_397 : okV RX10 397 MX3_learn := okV.of wcX3_learn wlRX10_397 wnX3_learn weX3_learn wi4 nh4.1 nh4.2
set_option maxRecDepth 20000 in
theorem wlRX10_401 : Cond.methodLink RX10 401 yX8_at ∈ tbG := tbk2 126 rfl rfl
theorem okRX10_401 : okV RX10 401 MX8_at := okV.of wcX8_at wlRX10_401 wnX8_at weX8_at wi9 nh9.1 nh9.2
set_option maxRecDepth 20000 in
theorem wlRX10_402 : Cond.methodLink RX10 402 yX2_onPaper ∈ tbG := tbk2 219 rfl rfl
theorem okRX10_402 : okV RX10 402 MX2_onPaper := okV.of wcX2_onPaper wlRX10_402 wnX2_onPaper weX2_onPaper wi3 nh3.1 nh3.2
set_option maxRecDepth 20000 in
theorem wlRX10_406 : Cond.methodLink RX10 406 yX2_begin ∈ tbG := tbk2 223 rfl rfl
theorem okRX10_406 : okV RX10 406 MX2_begin := okV.of wcX2_begin wlRX10_406 wnX2_begin weX2_begin wi3 nh3.1 nh3.2
set_option maxRecDepth 20000 in
theorem wlRX10_409 : Cond.methodLink RX10 409 yX2_follow ∈ tbG := tbk2 228 rfl rfl
theorem okRX10_409 : okV RX10 409 MX2_follow := okV.of wcX2_follow wlRX10_409 wnX2_follow weX2_follow wi3 nh3.1 nh3.2
set_option maxRecDepth 20000 in
theorem wlRX10_412 : Cond.methodLink RX10 412 yJ9_max_7cf53 ∈ tbG := tbk3 43 rfl rfl
theorem okRX10_412 : okS RX10 412 MJ9_max_7cf53 := ⟨wcJ9_max_7cf53, wlRX10_412, wsJ9_max_7cf53, wi14, nh14.1, nh14.2⟩
set_option maxRecDepth 20000 in
theorem wlRX10_415 : Cond.methodLink RX10 415 yX6_gatesBetween ∈ tbG := tbk3 82 rfl rfl
theorem okRX10_415 : okV RX10 415 MX6_gatesBetween := okV.of wcX6_gatesBetween wlRX10_415 wnX6_gatesBetween weX6_gatesBetween wi7 nh7.1 nh7.2
set_option maxRecDepth 20000 in
theorem wlRX0_23 : Cond.methodLink RX0 23 yX0_layOut ∈ tbG := tbk3 56 rfl rfl
theorem okRX0_23 : okV RX0 23 MX0_layOut := okV.of wcX0_layOut wlRX0_23 wnX0_layOut weX0_layOut wi1 nh1.1 nh1.2
set_option maxRecDepth 20000 in
theorem wlRX0_27 : Cond.methodLink RX0 27 yX0_spread ∈ tbG := tbk3 71 rfl rfl
theorem okRX0_27 : okV RX0 27 MX0_spread := okV.of wcX0_spread wlRX0_27 wnX0_spread weX0_spread wi1 nh1.1 nh1.2
set_option maxRecDepth 20000 in
theorem wlRX0_31 : Cond.methodLink RX0 31 yX0_link ∈ tbG := tbk3 67 rfl rfl
theorem okRX0_31 : okV RX0 31 MX0_link := okV.of wcX0_link wlRX0_31 wnX0_link weX0_link wi1 nh1.1 nh1.2
set_option maxRecDepth 20000 in
theorem wlRX0_39 : Cond.methodLink RX0 39 yX0_between ∈ tbG := tbk3 214 rfl rfl
theorem okRX0_39 : okV RX0 39 MX0_between := okV.of wcX0_between wlRX0_39 wnX0_between weX0_between wi1 nh1.1 nh1.2
set_option maxRecDepth 20000 in
theorem wlRX0_43 : Cond.methodLink RX0 43 yJ9_abs_0f7a4 ∈ tbG := tbk4 175 rfl rfl
theorem okRX0_43 : okS RX0 43 MJ9_abs_0f7a4 := ⟨wcJ9_abs_0f7a4, wlRX0_43, wsJ9_abs_0f7a4, wi14, nh14.1, nh14.2⟩
set_option maxRecDepth 20000 in
theorem wlRX0_49 : Cond.methodLink RX0 49 yJ9_max_7cf53 ∈ tbG := tbk4 178 rfl rfl
theorem okRX0_49 : okS RX0 49 MJ9_max_7cf53 := ⟨wcJ9_max_7cf53, wlRX0_49, wsJ9_max_7cf53, wi14, nh14.1, nh14.2⟩
set_option maxRecDepth 20000 in
theorem wlRX0_52 : Cond.methodLink RX0 52 yJ7_fill_53178 ∈ tbG := tbk3 60 rfl rfl
theorem okRX0_52 : okS RX0 52 MJ7_fill_53178 := ⟨wcJ7_fill_53178, wlRX0_52, wsJ7_fill_53178, wi16, nh16.1, nh16.2⟩
set_option maxRecDepth 20000 in
theorem wlRX0_58 : Cond.methodLink RX0 58 yX3_gatesTold ∈ tbG := tbk3 61 rfl rfl
theorem okRX0_58 : okV RX0 58 MX3_gatesTold := okV.of wcX3_gatesTold wlRX0_58 wnX3_gatesTold weX3_gatesTold wi4 nh4.1 nh4.2
set_option maxRecDepth 20000 in
theorem wlRX0_64 : Cond.methodLink RX0 64 yX3_from ∈ tbG := tbk3 65 rfl rfl
theorem okRX0_64 : okV RX0 64 MX3_from := okV.of wcX3_from wlRX0_64 wnX3_from weX3_from wi4 nh4.1 nh4.2
set_option maxRecDepth 20000 in
theorem wlRX0_67 : Cond.methodLink RX0 67 yX3_to ∈ tbG := tbk3 66 rfl rfl
theorem okRX0_67 : okV RX0 67 MX3_to := okV.of wcX3_to wlRX0_67 wnX3_to weX3_to wi4 nh4.1 nh4.2
set_option maxRecDepth 20000 in
theorem wlRX1_29 : Cond.methodLink RX1 29 yX1_setOut ∈ tbG := tbk3 158 rfl rfl
theorem okRX1_29 : okV RX1 29 MX1_setOut := okV.of wcX1_setOut wlRX1_29 wnX1_setOut weX1_setOut wi2 nh2.1 nh2.2
set_option maxRecDepth 20000 in
theorem wlRX1_33 : Cond.methodLink RX1 33 yX3_roomTold ∈ tbG := tbk3 165 rfl rfl
theorem okRX1_33 : okV RX1 33 MX3_roomTold := okV.of wcX3_roomTold wlRX1_33 wnX3_roomTold weX3_roomTold wi4 nh4.1 nh4.2
set_option maxRecDepth 20000 in
theorem wlRX1_39 : Cond.methodLink RX1 39 yX1_reached ∈ tbG := tbk3 166 rfl rfl
theorem okRX1_39 : okV RX1 39 MX1_reached := okV.of wcX1_reached wlRX1_39 wnX1_reached weX1_reached wi2 nh2.1 nh2.2
set_option maxRecDepth 20000 in
theorem wlRX1_42 : Cond.methodLink RX1 42 yX1_allowOneMore ∈ tbG := tbk3 170 rfl rfl
theorem okRX1_42 : okV RX1 42 MX1_allowOneMore := okV.of wcX1_allowOneMore wlRX1_42 wnX1_allowOneMore weX1_allowOneMore wi2 nh2.1 nh2.2
set_option maxRecDepth 20000 in
theorem wlRX1_46 : Cond.methodLink RX1 46 yX3_openLanes ∈ tbG := tbk3 162 rfl rfl
theorem okRX1_46 : okV RX1 46 MX3_openLanes := okV.of wcX3_openLanes wlRX1_46 wnX3_openLanes weX3_openLanes wi4 nh4.1 nh4.2
set_option maxRecDepth 20000 in
theorem wlRX1_49 : Cond.methodLink RX1 49 yX0_measure ∈ tbG := tbk3 163 rfl rfl
theorem okRX1_49 : okV RX1 49 MX0_measure := okV.of wcX0_measure wlRX1_49 wnX0_measure weX0_measure wi1 nh1.1 nh1.2
set_option maxRecDepth 20000 in
theorem wlRX1_53 : Cond.methodLink RX1 53 yX0_between ∈ tbG := tbk3 164 rfl rfl
theorem okRX1_53 : okV RX1 53 MX0_between := okV.of wcX0_between wlRX1_53 wnX0_between weX0_between wi1 nh1.1 nh1.2
set_option maxRecDepth 20000 in
theorem wlRX1_57 : Cond.methodLink RX1 57 arraycopyName ∈ tbG := tbk3 174 rfl rfl
set_option maxRecDepth 20000 in
theorem wlRX1_63 : Cond.methodLink RX1 63 yX3_letters ∈ tbG := tbk3 175 rfl rfl
theorem okRX1_63 : okV RX1 63 MX3_letters := okV.of wcX3_letters wlRX1_63 wnX3_letters weX3_letters wi4 nh4.1 nh4.2
set_option maxRecDepth 20000 in
theorem wlRX1_66 : Cond.methodLink RX1 66 yX3_isOpen ∈ tbG := tbk3 176 rfl rfl
theorem okRX1_66 : okV RX1 66 MX3_isOpen := okV.of wcX3_isOpen wlRX1_66 wnX3_isOpen weX3_isOpen wi4 nh4.1 nh4.2
set_option maxRecDepth 20000 in
theorem wlRX1_70 : Cond.methodLink RX1 70 yX3_isWatched ∈ tbG := tbk3 177 rfl rfl
theorem okRX1_70 : okV RX1 70 MX3_isWatched := okV.of wcX3_isWatched wlRX1_70 wnX3_isWatched weX3_isWatched wi4 nh4.1 nh4.2
set_option maxRecDepth 20000 in
theorem wlRX1_73 : Cond.methodLink RX1 73 yX3_to ∈ tbG := tbk3 178 rfl rfl
theorem okRX1_73 : okV RX1 73 MX3_to := okV.of wcX3_to wlRX1_73 wnX3_to weX3_to wi4 nh4.1 nh4.2
set_option maxRecDepth 20000 in
theorem wlRX1_77 : Cond.methodLink RX1 77 yX3_from ∈ tbG := tbk3 179 rfl rfl
theorem okRX1_77 : okV RX1 77 MX3_from := okV.of wcX3_from wlRX1_77 wnX3_from weX3_from wi4 nh4.1 nh4.2
set_option maxRecDepth 20000 in
theorem wlRX1_80 : Cond.methodLink RX1 80 yX1_comeNearer ∈ tbG := tbk3 180 rfl rfl
theorem okRX1_80 : okV RX1 80 MX1_comeNearer := okV.of wcX1_comeNearer wlRX1_80 wnX1_comeNearer weX1_comeNearer wi2 nh2.1 nh2.2
set_option maxRecDepth 20000 in
theorem wlRX1_84 : Cond.methodLink RX1 84 yJ9_min_7cf53 ∈ tbG := tbk3 184 rfl rfl
theorem okRX1_84 : okS RX1 84 MJ9_min_7cf53 := ⟨wcJ9_min_7cf53, wlRX1_84, wsJ9_min_7cf53, wi14, nh14.1, nh14.2⟩
set_option maxRecDepth 20000 in
theorem wlRX2_29 : Cond.methodLink RX2 29 yX5_size ∈ tbG := tbk2 227 rfl rfl
theorem okRX2_29 : okV RX2 29 MX5_size := okV.of wcX5_size wlRX2_29 wnX5_size weX5_size wi6 nh6.1 nh6.2
set_option maxRecDepth 20000 in
theorem wlRX2_39 : Cond.methodLink RX2 39 yX8_size ∈ tbG := tbk2 232 rfl rfl
theorem okRX2_39 : okV RX2 39 MX8_size := okV.of wcX8_size wlRX2_39 wnX8_size weX8_size wi9 nh9.1 nh9.2
set_option maxRecDepth 20000 in
theorem wlRX2_42 : Cond.methodLink RX2 42 yX8_at ∈ tbG := tbk2 233 rfl rfl
theorem okRX2_42 : okV RX2 42 MX8_at := okV.of wcX8_at wlRX2_42 wnX8_at weX8_at wi9 nh9.1 nh9.2
set_option maxRecDepth 20000 in
theorem wlRX2_46 : Cond.methodLink RX2 46 yX3_letterOf ∈ tbG := tbk2 234 rfl rfl
theorem okRX2_46 : okV RX2 46 MX3_letterOf := okV.of wcX3_letterOf wlRX2_46 wnX3_letterOf weX3_letterOf wi4 nh4.1 nh4.2
set_option maxRecDepth 20000 in
theorem wlRX2_51 : Cond.methodLink RX2 51 yX2_mayPass ∈ tbG := tbk2 235 rfl rfl
theorem okRX2_51 : okV RX2 51 MX2_mayPass := okV.of wcX2_mayPass wlRX2_51 wnX2_mayPass weX2_mayPass wi3 nh3.1 nh3.2
set_option maxRecDepth 20000 in
theorem wlRX2_55 : Cond.methodLink RX2 55 yX2_pass ∈ tbG := tbk3 4 rfl rfl
theorem okRX2_55 : okV RX2 55 MX2_pass := okV.of wcX2_pass wlRX2_55 wnX2_pass weX2_pass wi3 nh3.1 nh3.2
set_option maxRecDepth 20000 in
theorem wlRX2_59 : Cond.methodLink RX2 59 yX3_from ∈ tbG := tbk2 239 rfl rfl
theorem okRX2_59 : okV RX2 59 MX3_from := okV.of wcX3_from wlRX2_59 wnX3_from weX3_from wi4 nh4.1 nh4.2
set_option maxRecDepth 20000 in
theorem wlRX2_62 : Cond.methodLink RX2 62 yX3_isOpen ∈ tbG := tbk3 0 rfl rfl
theorem okRX2_62 : okV RX2 62 MX3_isOpen := okV.of wcX3_isOpen wlRX2_62 wnX3_isOpen weX3_isOpen wi4 nh4.1 nh4.2
set_option maxRecDepth 20000 in
theorem wlRX2_65 : Cond.methodLink RX2 65 yX3_isWatched ∈ tbG := tbk3 1 rfl rfl
theorem okRX2_65 : okV RX2 65 MX3_isWatched := okV.of wcX3_isWatched wlRX2_65 wnX3_isWatched weX3_isWatched wi4 nh4.1 nh4.2
set_option maxRecDepth 20000 in
theorem wlRX2_68 : Cond.methodLink RX2 68 yX5_strikes ∈ tbG := tbk3 2 rfl rfl
theorem okRX2_68 : okV RX2 68 MX5_strikes := okV.of wcX5_strikes wlRX2_68 wnX5_strikes weX5_strikes wi6 nh6.1 nh6.2
set_option maxRecDepth 20000 in
theorem wlRX2_71 : Cond.methodLink RX2 71 yX3_roomTold ∈ tbG := tbk3 3 rfl rfl
theorem okRX2_71 : okV RX2 71 MX3_roomTold := okV.of wcX3_roomTold wlRX2_71 wnX3_roomTold weX3_roomTold wi4 nh4.1 nh4.2
set_option maxRecDepth 20000 in
theorem wlRX2_74 : Cond.methodLink RX2 74 yX3_to ∈ tbG := tbk3 8 rfl rfl
theorem okRX2_74 : okV RX2 74 MX3_to := okV.of wcX3_to wlRX2_74 wnX3_to weX3_to wi4 nh4.1 nh4.2
set_option maxRecDepth 20000 in
theorem wlRX2_77 : Cond.methodLink RX2 77 yX5_stamp ∈ tbG := tbk3 9 rfl rfl
theorem okRX2_77 : okV RX2 77 MX5_stamp := okV.of wcX5_stamp wlRX2_77 wnX5_stamp weX5_stamp wi6 nh6.1 nh6.2
set_option maxRecDepth 20000 in
theorem wlRX2_80 : Cond.methodLink RX2 80 yJ9_max_7cf53 ∈ tbG := tbk3 10 rfl rfl
theorem okRX2_80 : okS RX2 80 MJ9_max_7cf53 := ⟨wcJ9_max_7cf53, wlRX2_80, wsJ9_max_7cf53, wi14, nh14.1, nh14.2⟩
set_option maxRecDepth 20000 in
theorem wlRX3_22 : Cond.methodLink RX3 22 yX3_forget ∈ tbG := tbk2 75 rfl rfl
theorem okRX3_22 : okV RX3 22 MX3_forget := okV.of wcX3_forget wlRX3_22 wnX3_forget weX3_forget wi4 nh4.1 nh4.2
set_option maxRecDepth 20000 in
theorem wlRX3_25 : Cond.methodLink RX3 25 yX8_size ∈ tbG := tbk2 79 rfl rfl
theorem okRX3_25 : okV RX3 25 MX8_size := okV.of wcX8_size wlRX3_25 wnX8_size weX8_size wi9 nh9.1 nh9.2
set_option maxRecDepth 20000 in
theorem wlRX3_31 : Cond.methodLink RX3 31 yX3_faultOf ∈ tbG := tbk2 83 rfl rfl
theorem okRX3_31 : okV RX3 31 MX3_faultOf := okV.of wcX3_faultOf wlRX3_31 wnX3_faultOf weX3_faultOf wi4 nh4.1 nh4.2
set_option maxRecDepth 20000 in
theorem wlRX3_41 : Cond.methodLink RX3 41 yX8_at ∈ tbG := tbk2 87 rfl rfl
theorem okRX3_41 : okV RX3 41 MX8_at := okV.of wcX8_at wlRX3_41 wnX8_at weX8_at wi9 nh9.1 nh9.2
set_option maxRecDepth 20000 in
theorem wlRX3_45 : Cond.methodLink RX3 45 yX3_takeRoom ∈ tbG := tbk2 91 rfl rfl
theorem okRX3_45 : okV RX3 45 MX3_takeRoom := okV.of wcX3_takeRoom wlRX3_45 wnX3_takeRoom weX3_takeRoom wi4 nh4.1 nh4.2
set_option maxRecDepth 20000 in
theorem wlRX3_49 : Cond.methodLink RX3 49 yX3_takeGate ∈ tbG := tbk2 98 rfl rfl
theorem okRX3_49 : okV RX3 49 MX3_takeGate := okV.of wcX3_takeGate wlRX3_49 wnX3_takeGate weX3_takeGate wi4 nh4.1 nh4.2
set_option maxRecDepth 20000 in
theorem wlRX3_52 : Cond.methodLink RX3 52 yX3_isTownByte ∈ tbG := tbk2 102 rfl rfl
theorem okRX3_52 : okS RX3 52 MX3_isTownByte := ⟨wcX3_isTownByte, wlRX3_52, wsX3_isTownByte, wi4, nh4.1, nh4.2⟩
set_option maxRecDepth 20000 in
theorem wlRX3_56 : Cond.methodLink RX3 56 yX3_isFigure ∈ tbG := tbk2 95 rfl rfl
theorem okRX3_56 : okS RX3 56 MX3_isFigure := ⟨wcX3_isFigure, wlRX3_56, wsX3_isFigure, wi4, nh4.1, nh4.2⟩
set_option maxRecDepth 20000 in
theorem wlRX3_62 : Cond.methodLink RX3 62 yJ6_bitCount_0f7a4 ∈ tbG := tbk5 15 rfl rfl
theorem okRX3_62 : okS RX3 62 MJ6_bitCount_0f7a4 := ⟨wcJ6_bitCount_0f7a4, wlRX3_62, wsJ6_bitCount_0f7a4, wi13, nh13.1, nh13.2⟩
set_option maxRecDepth 20000 in
theorem wlRX4_28 : Cond.methodLink RX4 28 yX4_isFull ∈ tbG := tbk4 40 rfl rfl
theorem okRX4_28 : okV RX4 28 MX4_isFull := okV.of wcX4_isFull wlRX4_28 wnX4_isFull weX4_isFull wi5 nh5.1 nh5.2
set_option maxRecDepth 20000 in
theorem wlRX4_32 : Cond.methodLink RX4 32 yX5_at ∈ tbG := tbk4 41 rfl rfl
theorem okRX4_32 : okV RX4 32 MX5_at := okV.of wcX5_at wlRX4_32 wnX5_at weX5_at wi6 nh6.1 nh6.2
set_option maxRecDepth 20000 in
theorem wlRX4_38 : Cond.methodLink RX4 38 yX5_size ∈ tbG := tbk4 42 rfl rfl
theorem okRX4_38 : okV RX4 38 MX5_size := okV.of wcX5_size wlRX4_38 wnX5_size weX5_size wi6 nh6.1 nh6.2
set_option maxRecDepth 20000 in
theorem wlRX4_41 : Cond.methodLink RX4 41 yJ9_max_7cf53 ∈ tbG := tbk4 82 rfl rfl
theorem okRX4_41 : okS RX4 41 MJ9_max_7cf53 := ⟨wcJ9_max_7cf53, wlRX4_41, wsJ9_max_7cf53, wi14, nh14.1, nh14.2⟩
set_option maxRecDepth 20000 in
theorem wlRX4_47 : Cond.methodLink RX4 47 yX4_unlikeAt ∈ tbG := tbk4 106 rfl rfl
theorem okRX4_47 : okV RX4 47 MX4_unlikeAt := okV.of wcX4_unlikeAt wlRX4_47 wnX4_unlikeAt weX4_unlikeAt wi5 nh5.1 nh5.2
set_option maxRecDepth 20000 in
theorem wlRX4_51 : Cond.methodLink RX4 51 yX4_isLetBy ∈ tbG := tbk4 119 rfl rfl
theorem okRX4_51 : okV RX4 51 MX4_isLetBy := okV.of wcX4_isLetBy wlRX4_51 wnX4_isLetBy weX4_isLetBy wi5 nh5.1 nh5.2
set_option maxRecDepth 20000 in
theorem wlRX4_55 : Cond.methodLink RX4 55 yX4_gatherUnlike ∈ tbG := tbk4 135 rfl rfl
theorem okRX4_55 : okV RX4 55 MX4_gatherUnlike := okV.of wcX4_gatherUnlike wlRX4_55 wnX4_gatherUnlike weX4_gatherUnlike wi5 nh5.1 nh5.2
set_option maxRecDepth 20000 in
theorem wlRX4_58 : Cond.methodLink RX4 58 yJ6_bitCount_0f7a4 ∈ tbG := tbk4 139 rfl rfl
theorem okRX4_58 : okS RX4 58 MJ6_bitCount_0f7a4 := ⟨wcJ6_bitCount_0f7a4, wlRX4_58, wsJ6_bitCount_0f7a4, wi13, nh13.1, nh13.2⟩
set_option maxRecDepth 20000 in
theorem wlRX4_63 : Cond.methodLink RX4 63 yX4_partsAll ∈ tbG := tbk4 145 rfl rfl
theorem okRX4_63 : okV RX4 63 MX4_partsAll := okV.of wcX4_partsAll wlRX4_63 wnX4_partsAll weX4_partsAll wi5 nh5.1 nh5.2
set_option maxRecDepth 20000 in
theorem wlRX4_66 : Cond.methodLink RX4 66 yX4_unlikeOf ∈ tbG := tbk4 123 rfl rfl
theorem okRX4_66 : okV RX4 66 MX4_unlikeOf := okV.of wcX4_unlikeOf wlRX4_66 wnX4_unlikeOf weX4_unlikeOf wi5 nh5.1 nh5.2
set_option maxRecDepth 20000 in
theorem wlRX4_69 : Cond.methodLink RX4 69 yX4_stampAt ∈ tbG := tbk4 110 rfl rfl
theorem okRX4_69 : okV RX4 69 MX4_stampAt := okV.of wcX4_stampAt wlRX4_69 wnX4_stampAt weX4_stampAt wi5 nh5.1 nh5.2
set_option maxRecDepth 20000 in
theorem wlRX5_19 : Cond.methodLink RX5 19 yX5_strikes ∈ tbG := tbk2 190 rfl rfl
theorem okRX5_19 : okV RX5 19 MX5_strikes := okV.of wcX5_strikes wlRX5_19 wnX5_strikes weX5_strikes wi6 nh6.1 nh6.2
set_option maxRecDepth 20000 in
theorem wlRX5_23 : Cond.methodLink RX5 23 yX5_size ∈ tbG := tbk3 25 rfl rfl
theorem okRX5_23 : okV RX5 23 MX5_size := okV.of wcX5_size wlRX5_23 wnX5_size weX5_size wi6 nh6.1 nh6.2
set_option maxRecDepth 20000 in
theorem wlRX5_26 : Cond.methodLink RX5 26 yJ9_min_7cf53 ∈ tbG := tbk3 26 rfl rfl
theorem okRX5_26 : okS RX5 26 MJ9_min_7cf53 := ⟨wcJ9_min_7cf53, wlRX5_26, wsJ9_min_7cf53, wi14, nh14.1, nh14.2⟩
set_option maxRecDepth 20000 in
theorem wlRX5_32 : Cond.methodLink RX5 32 yX5_at ∈ tbG := tbk3 27 rfl rfl
theorem okRX5_32 : okV RX5 32 MX5_at := okV.of wcX5_at wlRX5_32 wnX5_at weX5_at wi6 nh6.1 nh6.2
set_option maxRecDepth 20000 in
theorem wlRX6_33 : Cond.methodLink RX6 33 yX3_openLanes ∈ tbG := tbk3 48 rfl rfl
theorem okRX6_33 : okV RX6 33 MX3_openLanes := okV.of wcX3_openLanes wlRX6_33 wnX3_openLanes weX3_openLanes wi4 nh4.1 nh4.2
set_option maxRecDepth 20000 in
theorem wlRX6_39 : Cond.methodLink RX6 39 yX0_measure ∈ tbG := tbk3 52 rfl rfl
theorem okRX6_39 : okV RX6 39 MX0_measure := okV.of wcX0_measure wlRX6_39 wnX0_measure weX0_measure wi1 nh1.1 nh1.2
set_option maxRecDepth 20000 in
theorem wlRX6_47 : Cond.methodLink RX6 47 yX5_alike ∈ tbG := tbk3 75 rfl rfl
theorem okRX6_47 : okV RX6 47 MX5_alike := okV.of wcX5_alike wlRX6_47 wnX5_alike weX5_alike wi6 nh6.1 nh6.2
set_option maxRecDepth 20000 in
theorem wlRX6_53 : Cond.methodLink RX6 53 yX5_size ∈ tbG := tbk3 76 rfl rfl
theorem okRX6_53 : okV RX6 53 MX5_size := okV.of wcX5_size wlRX6_53 wnX5_size weX5_size wi6 nh6.1 nh6.2
set_option maxRecDepth 20000 in
theorem wlRX6_55 : Cond.methodLink RX6 55 yX5_at ∈ tbG := tbk3 77 rfl rfl
theorem okRX6_55 : okV RX6 55 MX5_at := okV.of wcX5_at wlRX6_55 wnX5_at weX5_at wi6 nh6.1 nh6.2
set_option maxRecDepth 20000 in
theorem wlRX6_59 : Cond.methodLink RX6 59 yX6_need ∈ tbG := tbk3 78 rfl rfl
theorem okRX6_59 : okV RX6 59 MX6_need := okV.of wcX6_need wlRX6_59 wnX6_need weX6_need wi7 nh7.1 nh7.2
set_option maxRecDepth 20000 in
theorem wlRX6_63 : Cond.methodLink RX6 63 yX6_needAt ∈ tbG := tbk3 90 rfl rfl
theorem okRX6_63 : okV RX6 63 MX6_needAt := okV.of wcX6_needAt wlRX6_63 wnX6_needAt weX6_needAt wi7 nh7.1 nh7.2
set_option maxRecDepth 20000 in
theorem wlRX6_66 : Cond.methodLink RX6 66 yX3_from ∈ tbG := tbk3 99 rfl rfl
theorem okRX6_66 : okV RX6 66 MX3_from := okV.of wcX3_from wlRX6_66 wnX3_from weX3_from wi4 nh4.1 nh4.2
set_option maxRecDepth 20000 in
theorem wlRX6_69 : Cond.methodLink RX6 69 yX3_to ∈ tbG := tbk3 94 rfl rfl
theorem okRX6_69 : okV RX6 69 MX3_to := okV.of wcX3_to wlRX6_69 wnX3_to weX3_to wi4 nh4.1 nh4.2
set_option maxRecDepth 20000 in
theorem wlRX6_72 : Cond.methodLink RX6 72 yX6_origin ∈ tbG := tbk3 86 rfl rfl
theorem okRX6_72 : okV RX6 72 MX6_origin := okV.of wcX6_origin wlRX6_72 wnX6_origin weX6_origin wi7 nh7.1 nh7.2
set_option maxRecDepth 20000 in
theorem wlRX6_76 : Cond.methodLink RX6 76 yX6_goal ∈ tbG := tbk3 95 rfl rfl
theorem okRX6_76 : okV RX6 76 MX6_goal := okV.of wcX6_goal wlRX6_76 wnX6_goal weX6_goal wi7 nh7.1 nh7.2
set_option maxRecDepth 20000 in
theorem wlRX6_79 : Cond.methodLink RX6 79 yX0_between ∈ tbG := tbk3 100 rfl rfl
theorem okRX6_79 : okV RX6 79 MX0_between := okV.of wcX0_between wlRX6_79 wnX0_between weX0_between wi1 nh1.1 nh1.2
set_option maxRecDepth 20000 in
theorem wlRX6_82 : Cond.methodLink RX6 82 yX3_isOpen ∈ tbG := tbk3 105 rfl rfl
theorem okRX6_82 : okV RX6 82 MX3_isOpen := okV.of wcX3_isOpen wlRX6_82 wnX3_isOpen weX3_isOpen wi4 nh4.1 nh4.2
set_option maxRecDepth 20000 in
theorem wlRX6_86 : Cond.methodLink RX6 86 yX6_laneWays ∈ tbG := tbk3 110 rfl rfl
theorem okRX6_86 : okV RX6 86 MX6_laneWays := okV.of wcX6_laneWays wlRX6_86 wnX6_laneWays weX6_laneWays wi7 nh7.1 nh7.2
set_option maxRecDepth 20000 in
theorem wlRX6_90 : Cond.methodLink RX6 90 yJ7_fill_d0a16 ∈ tbG := tbk3 114 rfl rfl
theorem okRX6_90 : okS RX6 90 MJ7_fill_d0a16 := ⟨wcJ7_fill_d0a16, wlRX6_90, wsJ7_fill_d0a16, wi16, nh16.1, nh16.2⟩
set_option maxRecDepth 20000 in
theorem wlRX6_99 : Cond.methodLink RX6 99 yX6_stepNearer ∈ tbG := tbk3 118 rfl rfl
theorem okRX6_99 : okV RX6 99 MX6_stepNearer := okV.of wcX6_stepNearer wlRX6_99 wnX6_stepNearer weX6_stepNearer wi7 nh7.1 nh7.2
set_option maxRecDepth 20000 in
theorem wlRX6_103 : Cond.methodLink RX6 103 yX3_letters ∈ tbG := tbk3 122 rfl rfl
theorem okRX6_103 : okV RX6 103 MX3_letters := okV.of wcX3_letters wlRX6_103 wnX3_letters weX3_letters wi4 nh4.1 nh4.2
set_option maxRecDepth 20000 in
theorem wlRX6_106 : Cond.methodLink RX6 106 yX6_isLane ∈ tbG := tbk3 126 rfl rfl
theorem okRX6_106 : okV RX6 106 MX6_isLane := okV.of wcX6_isLane wlRX6_106 wnX6_isLane weX6_isLane wi7 nh7.1 nh7.2
set_option maxRecDepth 20000 in
theorem wlRX6_109 : Cond.methodLink RX6 109 arraycopyName ∈ tbG := tbk3 131 rfl rfl
set_option maxRecDepth 20000 in
theorem wlRX6_115 : Cond.methodLink RX6 115 yX3_isWatched ∈ tbG := tbk3 130 rfl rfl
theorem okRX6_115 : okV RX6 115 MX3_isWatched := okV.of wcX3_isWatched wlRX6_115 wnX3_isWatched weX3_isWatched wi4 nh4.1 nh4.2
set_option maxRecDepth 20000 in
theorem wlRX6_118 : Cond.methodLink RX6 118 yX6_leastLaneLetter ∈ tbG := tbk3 142 rfl rfl
theorem okRX6_118 : okV RX6 118 MX6_leastLaneLetter := okV.of wcX6_leastLaneLetter wlRX6_118 wnX6_leastLaneLetter weX6_leastLaneLetter wi7 nh7.1 nh7.2
set_option maxRecDepth 20000 in
theorem wlRX6_122 : Cond.methodLink RX6 122 yX6_leastNearer ∈ tbG := tbk3 146 rfl rfl
theorem okRX6_122 : okV RX6 122 MX6_leastNearer := okV.of wcX6_leastNearer wlRX6_122 wnX6_leastNearer weX6_leastNearer wi7 nh7.1 nh7.2
set_option maxRecDepth 20000 in
theorem wlRX6_125 : Cond.methodLink RX6 125 yX6_isChained ∈ tbG := tbk3 205 rfl rfl
theorem okRX6_125 : okV RX6 125 MX6_isChained := okV.of wcX6_isChained wlRX6_125 wnX6_isChained weX6_isChained wi7 nh7.1 nh7.2
set_option maxRecDepth 20000 in
theorem wlRX6_129 : Cond.methodLink RX6 129 yX0_reachedFrom ∈ tbG := tbk3 210 rfl rfl
theorem okRX6_129 : okV RX6 129 MX0_reachedFrom := okV.of wcX0_reachedFrom wlRX6_129 wnX0_reachedFrom weX0_reachedFrom wi1 nh1.1 nh1.2
set_option maxRecDepth 20000 in
theorem wlRX6_132 : Cond.methodLink RX6 132 yX6_gatesBetween ∈ tbG := tbk3 209 rfl rfl
theorem okRX6_132 : okV RX6 132 MX6_gatesBetween := okV.of wcX6_gatesBetween wlRX6_132 wnX6_gatesBetween weX6_gatesBetween wi7 nh7.1 nh7.2
set_option maxRecDepth 20000 in
theorem wlRX7_23 : Cond.methodLink RX7 23 yJ7_fill_53178 ∈ tbG := tbk1 221 rfl rfl
theorem okRX7_23 : okS RX7 23 MJ7_fill_53178 := ⟨wcJ7_fill_53178, wlRX7_23, wsJ7_fill_53178, wi16, nh16.1, nh16.2⟩
set_option maxRecDepth 20000 in
theorem wlRX7_33 : Cond.methodLink RX7 33 yX7_isLost ∈ tbG := tbk4 214 rfl rfl
theorem okRX7_33 : okV RX7 33 MX7_isLost := okV.of wcX7_isLost wlRX7_33 wnX7_isLost weX7_isLost wi8 nh8.1 nh8.2
set_option maxRecDepth 20000 in
theorem wlRX7_37 : Cond.methodLink RX7 37 yX7_hasRun ∈ tbG := tbk4 232 rfl rfl
theorem okRX7_37 : okV RX7 37 MX7_hasRun := okV.of wcX7_hasRun wlRX7_37 wnX7_hasRun weX7_hasRun wi8 nh8.1 nh8.2
set_option maxRecDepth 20000 in
theorem wlRX7_41 : Cond.methodLink RX7 41 arraycopyName ∈ tbG := tbk5 0 rfl rfl
set_option maxRecDepth 20000 in
theorem wlRX8_15 : Cond.methodLink RX8 15 yJ9_min_7cf53 ∈ tbG := tbk2 2 rfl rfl
theorem okRX8_15 : okS RX8 15 MJ9_min_7cf53 := ⟨wcJ9_min_7cf53, wlRX8_15, wsJ9_min_7cf53, wi14, nh14.1, nh14.2⟩
set_option maxRecDepth 20000 in
theorem wlRX9_41 : Cond.methodLink RX9 41 yX5_size ∈ tbG := tbk3 227 rfl rfl
theorem okRX9_41 : okV RX9 41 MX5_size := okV.of wcX5_size wlRX9_41 wnX5_size weX5_size wi6 nh6.1 nh6.2
set_option maxRecDepth 20000 in
theorem wlRX9_51 : Cond.methodLink RX9 51 yX9_joinTowns ∈ tbG := tbk3 229 rfl rfl
theorem okRX9_51 : okV RX9 51 MX9_joinTowns := okV.of wcX9_joinTowns wlRX9_51 wnX9_joinTowns weX9_joinTowns wi10 nh10.1 nh10.2
set_option maxRecDepth 20000 in
theorem wlRX9_54 : Cond.methodLink RX9 54 yX9_countRounds ∈ tbG := tbk3 236 rfl rfl
theorem okRX9_54 : okV RX9 54 MX9_countRounds := okV.of wcX9_countRounds wlRX9_54 wnX9_countRounds weX9_countRounds wi10 nh10.1 nh10.2
set_option maxRecDepth 20000 in
theorem wlRX9_58 : Cond.methodLink RX9 58 yJ7_fill_d0a16 ∈ tbG := tbk4 0 rfl rfl
theorem okRX9_58 : okS RX9 58 MJ7_fill_d0a16 := ⟨wcJ7_fill_d0a16, wlRX9_58, wsJ7_fill_d0a16, wi16, nh16.1, nh16.2⟩
set_option maxRecDepth 20000 in
theorem wlRX9_64 : Cond.methodLink RX9 64 yX9_countFrom ∈ tbG := tbk4 19 rfl rfl
theorem okRX9_64 : okV RX9 64 MX9_countFrom := okV.of wcX9_countFrom wlRX9_64 wnX9_countFrom weX9_countFrom wi10 nh10.1 nh10.2
set_option maxRecDepth 20000 in
theorem wlRX9_68 : Cond.methodLink RX9 68 yX5_at ∈ tbG := tbk4 23 rfl rfl
theorem okRX9_68 : okV RX9 68 MX5_at := okV.of wcX5_at wlRX9_68 wnX5_at weX5_at wi6 nh6.1 nh6.2
set_option maxRecDepth 20000 in
theorem wlRX9_72 : Cond.methodLink RX9 72 yX3_isOpen ∈ tbG := tbk4 3 rfl rfl
theorem okRX9_72 : okV RX9 72 MX3_isOpen := okV.of wcX3_isOpen wlRX9_72 wnX3_isOpen weX3_isOpen wi4 nh4.1 nh4.2
set_option maxRecDepth 20000 in
theorem wlRX9_77 : Cond.methodLink RX9 77 yX9_stampForGood ∈ tbG := tbk4 24 rfl rfl
theorem okRX9_77 : okV RX9 77 MX9_stampForGood := okV.of wcX9_stampForGood wlRX9_77 wnX9_stampForGood weX9_stampForGood wi10 nh10.1 nh10.2
set_option maxRecDepth 20000 in
theorem wlRX9_81 : Cond.methodLink RX9 81 yX3_to ∈ tbG := tbk4 2 rfl rfl
theorem okRX9_81 : okV RX9 81 MX3_to := okV.of wcX3_to wlRX9_81 wnX3_to weX3_to wi4 nh4.1 nh4.2
set_option maxRecDepth 20000 in
theorem wlRX9_84 : Cond.methodLink RX9 84 yX3_openLanes ∈ tbG := tbk3 233 rfl rfl
theorem okRX9_84 : okV RX9 84 MX3_openLanes := okV.of wcX3_openLanes wlRX9_84 wnX3_openLanes weX3_openLanes wi4 nh4.1 nh4.2
set_option maxRecDepth 20000 in
theorem wlRX9_87 : Cond.methodLink RX9 87 yX0_measure ∈ tbG := tbk3 234 rfl rfl
theorem okRX9_87 : okV RX9 87 MX0_measure := okV.of wcX0_measure wlRX9_87 wnX0_measure weX0_measure wi1 nh1.1 nh1.2
set_option maxRecDepth 20000 in
theorem wlRX9_91 : Cond.methodLink RX9 91 yX0_reachedFrom ∈ tbG := tbk3 235 rfl rfl
theorem okRX9_91 : okV RX9 91 MX0_reachedFrom := okV.of wcX0_reachedFrom wlRX9_91 wnX0_reachedFrom weX0_reachedFrom wi1 nh1.1 nh1.2
set_option maxRecDepth 20000 in
theorem wlRX9_94 : Cond.methodLink RX9 94 yX3_from ∈ tbG := tbk4 14 rfl rfl
theorem okRX9_94 : okV RX9 94 MX3_from := okV.of wcX3_from wlRX9_94 wnX3_from weX3_from wi4 nh4.1 nh4.2
set_option maxRecDepth 20000 in
theorem wlRX9_97 : Cond.methodLink RX9 97 yX9_lengthen ∈ tbG := tbk4 5 rfl rfl
theorem okRX9_97 : okV RX9 97 MX9_lengthen := okV.of wcX9_lengthen wlRX9_97 wnX9_lengthen weX9_lengthen wi10 nh10.1 nh10.2
set_option maxRecDepth 20000 in
theorem wlRX9_101 : Cond.methodLink RX9 101 yX3_letters ∈ tbG := tbk4 1 rfl rfl
theorem okRX9_101 : okV RX9 101 MX3_letters := okV.of wcX3_letters wlRX9_101 wnX3_letters weX3_letters wi4 nh4.1 nh4.2
set_option maxRecDepth 20000 in
theorem wlRX9_104 : Cond.methodLink RX9 104 yX3_isWatched ∈ tbG := tbk4 4 rfl rfl
theorem okRX9_104 : okV RX9 104 MX3_isWatched := okV.of wcX3_isWatched wlRX9_104 wnX3_isWatched weX3_isWatched wi4 nh4.1 nh4.2
set_option maxRecDepth 20000 in
theorem wlRX9_107 : Cond.methodLink RX9 107 yX9_goOnByLanes ∈ tbG := tbk4 9 rfl rfl
theorem okRX9_107 : okV RX9 107 MX9_goOnByLanes := okV.of wcX9_goOnByLanes wlRX9_107 wnX9_goOnByLanes weX9_goOnByLanes wi10 nh10.1 nh10.2
set_option maxRecDepth 20000 in
theorem wlRX9_111 : Cond.methodLink RX9 111 yX9_behindRounds ∈ tbG := tbk4 15 rfl rfl
theorem okRX9_111 : okV RX9 111 MX9_behindRounds := okV.of wcX9_behindRounds wlRX9_111 wnX9_behindRounds weX9_behindRounds wi10 nh10.1 nh10.2
set_option maxRecDepth 20000 in
theorem wlRX9_115 : Cond.methodLink RX9 115 yX3_gatesTold ∈ tbG := tbk4 13 rfl rfl
theorem okRX9_115 : okV RX9 115 MX3_gatesTold := okV.of wcX3_gatesTold wlRX9_115 wnX3_gatesTold weX3_gatesTold wi4 nh4.1 nh4.2
set_option maxRecDepth 20000 in
theorem wlRL_13 : Cond.methodLink RL 13 yX10_type ∈ tbG := tbk2 52 rfl rfl
theorem okRL_13 : okV RL 13 MX10_type := okV.of wcX10_type wlRL_13 wnX10_type weX10_type wi0 nh0.1 nh0.2
set_option maxRecDepth 20000 in
theorem wlRL_17 : Cond.methodLink RL 17 yX11_type ∈ tbG := tbk5 211 rfl rfl
theorem okRL_17 : okV RL 17 MX11_type := okV.of wcX11_type wlRL_17 wnX11_type weX11_type wi12 nh12.1 nh12.2
set_option maxRecDepth 20000 in
theorem wlRL_18 : Cond.methodLink RL 18 yX10_wipe ∈ tbG := tbk2 106 rfl rfl
theorem okRL_18 : okV RL 18 MX10_wipe := okV.of wcX10_wipe wlRL_18 wnX10_wipe weX10_wipe wi0 nh0.1 nh0.2
set_option maxRecDepth 20000 in
theorem wlRL_22 : Cond.methodLink RL 22 yX11_wipe ∈ tbG := tbk5 222 rfl rfl
theorem okRL_22 : okV RL 22 MX11_wipe := okV.of wcX11_wipe wlRL_22 wnX11_wipe weX11_wipe wi12 nh12.1 nh12.2
set_option maxRecDepth 20000 in
theorem wlRL_23 : Cond.methodLink RL 23 yX10_fault ∈ tbG := tbk2 114 rfl rfl
theorem okRL_23 : okV RL 23 MX10_fault := okV.of wcX10_fault wlRL_23 wnX10_fault weX10_fault wi0 nh0.1 nh0.2
set_option maxRecDepth 20000 in
theorem wlRL_26 : Cond.methodLink RL 26 yX11_fault ∈ tbG := tbk5 226 rfl rfl
theorem okRL_26 : okV RL 26 MX11_fault := okV.of wcX11_fault wlRL_26 wnX11_fault weX11_fault wi12 nh12.1 nh12.2
set_option maxRecDepth 20000 in
theorem wlRL_27 : Cond.methodLink RL 27 yX10_gate ∈ tbG := tbk2 131 rfl rfl
theorem okRL_27 : okV RL 27 MX10_gate := okV.of wcX10_gate wlRL_27 wnX10_gate weX10_gate wi0 nh0.1 nh0.2
set_option maxRecDepth 20000 in
theorem wlRL_30 : Cond.methodLink RL 30 yX11_gate ∈ tbG := tbk6 25 rfl rfl
theorem okRL_30 : okV RL 30 MX11_gate := okV.of wcX11_gate wlRL_30 wnX11_gate weX11_gate wi12 nh12.1 nh12.2
set_option maxRecDepth 20000 in
theorem wlRL_31 : Cond.methodLink RL 31 yX10_room ∈ tbG := tbk2 155 rfl rfl
theorem okRL_31 : okV RL 31 MX10_room := okV.of wcX10_room wlRL_31 wnX10_room weX10_room wi0 nh0.1 nh0.2
set_option maxRecDepth 20000 in
theorem wlRL_35 : Cond.methodLink RL 35 yX11_room ∈ tbG := tbk6 33 rfl rfl
theorem okRL_35 : okV RL 35 MX11_room := okV.of wcX11_room wlRL_35 wnX11_room weX11_room wi12 nh12.1 nh12.2
set_option maxRecDepth 20000 in
theorem wlRL_36 : Cond.methodLink RL 36 yX10_shut ∈ tbG := tbk2 163 rfl rfl
theorem okRL_36 : okV RL 36 MX10_shut := okV.of wcX10_shut wlRL_36 wnX10_shut weX10_shut wi0 nh0.1 nh0.2
set_option maxRecDepth 20000 in
theorem wlRL_39 : Cond.methodLink RL 39 yX11_shut ∈ tbG := tbk6 37 rfl rfl
theorem okRL_39 : okV RL 39 MX11_shut := okV.of wcX11_shut wlRL_39 wnX11_shut weX11_shut wi12 nh12.1 nh12.2
set_option maxRecDepth 20000 in
theorem wlRL_40 : Cond.methodLink RL 40 yX10_paper ∈ tbG := tbk2 171 rfl rfl
theorem okRL_40 : okV RL 40 MX10_paper := okV.of wcX10_paper wlRL_40 wnX10_paper weX10_paper wi0 nh0.1 nh0.2
set_option maxRecDepth 20000 in
theorem wlRL_43 : Cond.methodLink RL 43 yX11_paper ∈ tbG := tbk6 42 rfl rfl
theorem okRL_43 : okV RL 43 MX11_paper := okV.of wcX11_paper wlRL_43 wnX11_paper weX11_paper wi12 nh12.1 nh12.2
set_option maxRecDepth 20000 in
theorem wlRL_44 : Cond.methodLink RL 44 yX10_judged ∈ tbG := tbk2 205 rfl rfl
theorem okRL_44 : okV RL 44 MX10_judged := okV.of wcX10_judged wlRL_44 wnX10_judged weX10_judged wi0 nh0.1 nh0.2
set_option maxRecDepth 20000 in
theorem wlRL_48 : Cond.methodLink RL 48 yX11_judged ∈ tbG := tbk6 71 rfl rfl
theorem okRL_48 : okV RL 48 MX11_judged := okV.of wcX11_judged wlRL_48 wnX11_judged weX11_judged wi12 nh12.1 nh12.2
set_option maxRecDepth 20000 in
theorem wlRL_49 : Cond.methodLink RL 49 yX10_same ∈ tbG := tbk3 17 rfl rfl
theorem okRL_49 : okV RL 49 MX10_same := okV.of wcX10_same wlRL_49 wnX10_same weX10_same wi0 nh0.1 nh0.2
set_option maxRecDepth 20000 in
theorem wlRL_52 : Cond.methodLink RL 52 yX11_same ∈ tbG := tbk6 92 rfl rfl
theorem okRL_52 : okV RL 52 MX11_same := okV.of wcX11_same wlRL_52 wnX11_same weX11_same wi12 nh12.1 nh12.2
set_option maxRecDepth 20000 in
theorem wlRL_53 : Cond.methodLink RL 53 yX10_shortest ∈ tbG := tbk3 28 rfl rfl
theorem okRL_53 : okV RL 53 MX10_shortest := okV.of wcX10_shortest wlRL_53 wnX10_shortest weX10_shortest wi0 nh0.1 nh0.2
set_option maxRecDepth 20000 in
theorem wlRL_57 : Cond.methodLink RL 57 yX11_shortest ∈ tbG := tbk6 104 rfl rfl
theorem okRL_57 : okV RL 57 MX11_shortest := okV.of wcX11_shortest wlRL_57 wnX11_shortest weX11_shortest wi12 nh12.1 nh12.2
set_option maxRecDepth 20000 in
theorem wlRL_58 : Cond.methodLink RL 58 yX10_letter ∈ tbG := tbk3 134 rfl rfl
theorem okRL_58 : okV RL 58 MX10_letter := okV.of wcX10_letter wlRL_58 wnX10_letter weX10_letter wi0 nh0.1 nh0.2
set_option maxRecDepth 20000 in
theorem wlRL_62 : Cond.methodLink RL 62 yX11_letter ∈ tbG := tbk6 144 rfl rfl
theorem okRL_62 : okV RL 62 MX11_letter := okV.of wcX11_letter wlRL_62 wnX11_letter weX11_letter wi12 nh12.1 nh12.2
set_option maxRecDepth 20000 in
theorem wlRL_63 : Cond.methodLink RL 63 yX10_errands ∈ tbG := tbk3 150 rfl rfl
theorem okRL_63 : okV RL 63 MX10_errands := okV.of wcX10_errands wlRL_63 wnX10_errands weX10_errands wi0 nh0.1 nh0.2
set_option maxRecDepth 20000 in
theorem wlRL_67 : Cond.methodLink RL 67 yX11_errands ∈ tbG := tbk6 152 rfl rfl
theorem okRL_67 : okV RL 67 MX11_errands := okV.of wcX11_errands wlRL_67 wnX11_errands weX11_errands wi12 nh12.1 nh12.2
set_option maxRecDepth 20000 in
theorem wlRL_68 : Cond.methodLink RL 68 yX10_clean ∈ tbG := tbk3 189 rfl rfl
theorem okRL_68 : okV RL 68 MX10_clean := okV.of wcX10_clean wlRL_68 wnX10_clean weX10_clean wi0 nh0.1 nh0.2
set_option maxRecDepth 20000 in
theorem wlRL_71 : Cond.methodLink RL 71 yX11_clean ∈ tbG := tbk6 168 rfl rfl
theorem okRL_71 : okV RL 71 MX11_clean := okV.of wcX11_clean wlRL_71 wnX11_clean weX11_clean wi12 nh12.1 nh12.2
set_option maxRecDepth 20000 in
theorem wlRL_72 : Cond.methodLink RL 72 yX10_found ∈ tbG := tbk3 197 rfl rfl
theorem okRL_72 : okV RL 72 MX10_found := okV.of wcX10_found wlRL_72 wnX10_found weX10_found wi0 nh0.1 nh0.2
set_option maxRecDepth 20000 in
theorem wlRL_75 : Cond.methodLink RL 75 yX11_found ∈ tbG := tbk6 176 rfl rfl
theorem okRL_75 : okV RL 75 MX11_found := okV.of wcX11_found wlRL_75 wnX11_found weX11_found wi12 nh12.1 nh12.2
set_option maxRecDepth 20000 in
theorem wlRL_76 : Cond.methodLink RL 76 yX10_many ∈ tbG := tbk3 219 rfl rfl
theorem okRL_76 : okV RL 76 MX10_many := okV.of wcX10_many wlRL_76 wnX10_many weX10_many wi0 nh0.1 nh0.2
set_option maxRecDepth 20000 in
theorem wlRL_80 : Cond.methodLink RL 80 yX11_many ∈ tbG := tbk6 184 rfl rfl
theorem okRL_80 : okV RL 80 MX11_many := okV.of wcX11_many wlRL_80 wnX11_many weX11_many wi12 nh12.1 nh12.2
set_option maxRecDepth 20000 in
theorem wlRL_81 : Cond.methodLink RL 81 yX10_list ∈ tbG := tbk4 28 rfl rfl
theorem okRL_81 : okV RL 81 MX10_list := okV.of wcX10_list wlRL_81 wnX10_list weX10_list wi0 nh0.1 nh0.2
set_option maxRecDepth 20000 in
theorem wlRL_84 : Cond.methodLink RL 84 yX11_list ∈ tbG := tbk6 208 rfl rfl
theorem okRL_84 : okV RL 84 MX11_list := okV.of wcX11_list wlRL_84 wnX11_list weX11_list wi12 nh12.1 nh12.2
set_option maxRecDepth 20000 in
theorem wlRL_85 : Cond.methodLink RL 85 yX10_read ∈ tbG := tbk4 47 rfl rfl
theorem okRL_85 : okV RL 85 MX10_read := okV.of wcX10_read wlRL_85 wnX10_read weX10_read wi0 nh0.1 nh0.2
set_option maxRecDepth 20000 in
theorem wlRL_88 : Cond.methodLink RL 88 yX11_read ∈ tbG := tbk6 216 rfl rfl
theorem okRL_88 : okV RL 88 MX11_read := okV.of wcX11_read wlRL_88 wnX11_read weX11_read wi12 nh12.1 nh12.2
set_option maxRecDepth 20000 in
theorem wlRL_89 : Cond.methodLink RL 89 yX10_unlist ∈ tbG := tbk4 74 rfl rfl
theorem okRL_89 : okV RL 89 MX10_unlist := okV.of wcX10_unlist wlRL_89 wnX10_unlist weX10_unlist wi0 nh0.1 nh0.2
set_option maxRecDepth 20000 in
theorem wlRL_92 : Cond.methodLink RL 92 yX11_unlist ∈ tbG := tbk6 220 rfl rfl
theorem okRL_92 : okV RL 92 MX11_unlist := okV.of wcX11_unlist wlRL_92 wnX11_unlist weX11_unlist wi12 nh12.1 nh12.2
set_option maxRecDepth 20000 in
theorem wlRL_93 : Cond.methodLink RL 93 yX10_listed ∈ tbG := tbk4 83 rfl rfl
theorem okRL_93 : okV RL 93 MX10_listed := okV.of wcX10_listed wlRL_93 wnX10_listed weX10_listed wi0 nh0.1 nh0.2
set_option maxRecDepth 20000 in
theorem wlRL_96 : Cond.methodLink RL 96 yX11_listed ∈ tbG := tbk6 224 rfl rfl
theorem okRL_96 : okV RL 96 MX11_listed := okV.of wcX11_listed wlRL_96 wnX11_listed weX11_listed wi12 nh12.1 nh12.2
set_option maxRecDepth 20000 in
theorem wlRL_97 : Cond.methodLink RL 97 yX10_lets ∈ tbG := tbk4 95 rfl rfl
theorem okRL_97 : okV RL 97 MX10_lets := okV.of wcX10_lets wlRL_97 wnX10_lets weX10_lets wi0 nh0.1 nh0.2
set_option maxRecDepth 20000 in
theorem wlRL_100 : Cond.methodLink RL 100 yX11_lets ∈ tbG := tbk6 233 rfl rfl
theorem okRL_100 : okV RL 100 MX11_lets := okV.of wcX11_lets wlRL_100 wnX11_lets weX11_lets wi12 nh12.1 nh12.2
set_option maxRecDepth 20000 in
theorem wlRL_101 : Cond.methodLink RL 101 yX10_slips ∈ tbG := tbk4 111 rfl rfl
theorem okRL_101 : okV RL 101 MX10_slips := okV.of wcX10_slips wlRL_101 wnX10_slips weX10_slips wi0 nh0.1 nh0.2
set_option maxRecDepth 20000 in
theorem wlRL_104 : Cond.methodLink RL 104 yX11_slips ∈ tbG := tbk7 5 rfl rfl
theorem okRL_104 : okV RL 104 MX11_slips := okV.of wcX11_slips wlRL_104 wnX11_slips weX11_slips wi12 nh12.1 nh12.2
set_option maxRecDepth 20000 in
theorem wlRL_105 : Cond.methodLink RL 105 yX10_fewest ∈ tbG := tbk4 127 rfl rfl
theorem okRL_105 : okV RL 105 MX10_fewest := okV.of wcX10_fewest wlRL_105 wnX10_fewest weX10_fewest wi0 nh0.1 nh0.2
set_option maxRecDepth 20000 in
theorem wlRL_108 : Cond.methodLink RL 108 yX11_fewest ∈ tbG := tbk7 13 rfl rfl
theorem okRL_108 : okV RL 108 MX11_fewest := okV.of wcX11_fewest wlRL_108 wnX11_fewest weX11_fewest wi12 nh12.1 nh12.2
set_option maxRecDepth 20000 in
theorem wlRL_109 : Cond.methodLink RL 109 yX10_far ∈ tbG := tbk4 149 rfl rfl
theorem okRL_109 : okV RL 109 MX10_far := okV.of wcX10_far wlRL_109 wnX10_far weX10_far wi0 nh0.1 nh0.2
set_option maxRecDepth 20000 in
theorem wlRL_112 : Cond.methodLink RL 112 yX11_far ∈ tbG := tbk7 24 rfl rfl
theorem okRL_112 : okV RL 112 MX11_far := okV.of wcX11_far wlRL_112 wnX11_far weX11_far wi12 nh12.1 nh12.2
set_option maxRecDepth 20000 in
theorem wlRL_113 : Cond.methodLink RL 113 yX10_without ∈ tbG := tbk4 162 rfl rfl
theorem okRL_113 : okV RL 113 MX10_without := okV.of wcX10_without wlRL_113 wnX10_without weX10_without wi0 nh0.1 nh0.2
set_option maxRecDepth 20000 in
theorem wlRL_116 : Cond.methodLink RL 116 yX11_without ∈ tbG := tbk7 40 rfl rfl
theorem okRL_116 : okV RL 116 MX11_without := okV.of wcX11_without wlRL_116 wnX11_without weX11_without wi12 nh12.1 nh12.2
set_option maxRecDepth 20000 in
theorem wlRL_117 : Cond.methodLink RL 117 yX10_with ∈ tbG := tbk4 179 rfl rfl
theorem okRL_117 : okV RL 117 MX10_with := okV.of wcX10_with wlRL_117 wnX10_with weX10_with wi0 nh0.1 nh0.2
set_option maxRecDepth 20000 in
theorem wlRL_120 : Cond.methodLink RL 120 yX11_with ∈ tbG := tbk7 48 rfl rfl
theorem okRL_120 : okV RL 120 MX11_with := okV.of wcX11_with wlRL_120 wnX11_with weX11_with wi12 nh12.1 nh12.2
set_option maxRecDepth 20000 in
theorem wlRL_121 : Cond.methodLink RL 121 yX10_sheet ∈ tbG := tbk4 187 rfl rfl
theorem okRL_121 : okV RL 121 MX10_sheet := okV.of wcX10_sheet wlRL_121 wnX10_sheet weX10_sheet wi0 nh0.1 nh0.2
set_option maxRecDepth 20000 in
theorem wlRL_124 : Cond.methodLink RL 124 yX11_sheet ∈ tbG := tbk5 171 rfl rfl
theorem okRL_124 : okV RL 124 MX11_sheet := okV.of wcX11_sheet wlRL_124 wnX11_sheet weX11_sheet wi12 nh12.1 nh12.2
set_option maxRecDepth 20000 in
theorem wlRL_125 : Cond.methodLink RL 125 yX10_lose ∈ tbG := tbk4 198 rfl rfl
theorem okRL_125 : okV RL 125 MX10_lose := okV.of wcX10_lose wlRL_125 wnX10_lose weX10_lose wi0 nh0.1 nh0.2
set_option maxRecDepth 20000 in
theorem wlRL_128 : Cond.methodLink RL 128 yX11_lose ∈ tbG := tbk5 187 rfl rfl
theorem okRL_128 : okV RL 128 MX11_lose := okV.of wcX11_lose wlRL_128 wnX11_lose weX11_lose wi12 nh12.1 nh12.2
set_option maxRecDepth 20000 in
theorem wlRL_129 : Cond.methodLink RL 129 yX10_lay ∈ tbG := tbk4 206 rfl rfl
theorem okRL_129 : okV RL 129 MX10_lay := okV.of wcX10_lay wlRL_129 wnX10_lay weX10_lay wi0 nh0.1 nh0.2
set_option maxRecDepth 20000 in
theorem wlRL_132 : Cond.methodLink RL 132 yX11_lay ∈ tbG := tbk5 191 rfl rfl
theorem okRL_132 : okV RL 132 MX11_lay := okV.of wcX11_lay wlRL_132 wnX11_lay weX11_lay wi12 nh12.1 nh12.2
set_option maxRecDepth 20000 in
theorem wlRL_133 : Cond.methodLink RL 133 yX10_get ∈ tbG := tbk4 219 rfl rfl
theorem okRL_133 : okV RL 133 MX10_get := okV.of wcX10_get wlRL_133 wnX10_get weX10_get wi0 nh0.1 nh0.2
set_option maxRecDepth 20000 in
theorem wlRL_136 : Cond.methodLink RL 136 yX11_get ∈ tbG := tbk5 202 rfl rfl
theorem okRL_136 : okV RL 136 MX11_get := okV.of wcX11_get wlRL_136 wnX11_get weX11_get wi12 nh12.1 nh12.2
set_option maxRecDepth 20000 in
theorem wlRL_137 : Cond.methodLink RL 137 yX10_copy ∈ tbG := tbk4 224 rfl rfl
theorem okRL_137 : okV RL 137 MX10_copy := okV.of wcX10_copy wlRL_137 wnX10_copy weX10_copy wi0 nh0.1 nh0.2
set_option maxRecDepth 20000 in
theorem wlRL_140 : Cond.methodLink RL 140 yX11_copy ∈ tbG := tbk5 207 rfl rfl
theorem okRL_140 : okV RL 140 MX11_copy := okV.of wcX11_copy wlRL_140 wnX11_copy weX11_copy wi12 nh12.1 nh12.2
set_option maxRecDepth 20000 in
theorem wlRL_141 : Cond.methodLink RL 141 yX10_write ∈ tbG := tbk5 1 rfl rfl
theorem okRL_141 : okV RL 141 MX10_write := okV.of wcX10_write wlRL_141 wnX10_write weX10_write wi0 nh0.1 nh0.2
set_option maxRecDepth 20000 in
theorem wlRL_144 : Cond.methodLink RL 144 yX11_write ∈ tbG := tbk7 52 rfl rfl
theorem okRL_144 : okV RL 144 MX11_write := okV.of wcX11_write wlRL_144 wnX11_write weX11_write wi12 nh12.1 nh12.2
set_option maxRecDepth 20000 in
theorem wlRL_145 : Cond.methodLink RL 145 yX10_count ∈ tbG := tbk5 6 rfl rfl
theorem okRL_145 : okV RL 145 MX10_count := okV.of wcX10_count wlRL_145 wnX10_count weX10_count wi0 nh0.1 nh0.2
set_option maxRecDepth 20000 in
theorem wlRL_148 : Cond.methodLink RL 148 yX11_count ∈ tbG := tbk7 56 rfl rfl
theorem okRL_148 : okV RL 148 MX11_count := okV.of wcX11_count wlRL_148 wnX11_count weX11_count wi12 nh12.1 nh12.2
set_option maxRecDepth 20000 in
theorem wlRL_149 : Cond.methodLink RL 149 yX10_digest ∈ tbG := tbk5 24 rfl rfl
theorem okRL_149 : okV RL 149 MX10_digest := okV.of wcX10_digest wlRL_149 wnX10_digest weX10_digest wi0 nh0.1 nh0.2
set_option maxRecDepth 20000 in
theorem wlRL_153 : Cond.methodLink RL 153 yX11_digest ∈ tbG := tbk7 60 rfl rfl
theorem okRL_153 : okV RL 153 MX11_digest := okV.of wcX11_digest wlRL_153 wnX11_digest weX11_digest wi12 nh12.1 nh12.2
set_option maxRecDepth 20000 in
theorem wlRX11_86 : Cond.methodLink RX11 86 yX11_in ∈ tbG := tbk5 179 rfl rfl
theorem okRX11_86 : okS RX11 86 MX11_in := ⟨wcX11_in, wlRX11_86, wsX11_in, wi12, nh12.1, nh12.2⟩
set_option maxRecDepth 20000 in
theorem wlRX11_98 : Cond.methodLink RX11 98 yX11_isSheet ∈ tbG := tbk5 175 rfl rfl
theorem okRX11_98 : okS RX11 98 MX11_isSheet := ⟨wcX11_isSheet, wlRX11_98, wsX11_isSheet, wi12, nh12.1, nh12.2⟩
set_option maxRecDepth 20000 in
theorem wlRX11_104 : Cond.methodLink RX11 104 yX11_met ∈ tbG := tbk5 183 rfl rfl
theorem okRX11_104 : okV RX11 104 MX11_met := okV.of wcX11_met wlRX11_104 wnX11_met weX11_met wi12 nh12.1 nh12.2
set_option maxRecDepth 20000 in
theorem wlRX11_108 : Cond.methodLink RX11 108 yX11_lacks ∈ tbG := tbk5 195 rfl rfl
theorem okRX11_108 : okV RX11 108 MX11_lacks := okV.of wcX11_lacks wlRX11_108 wnX11_lacks weX11_lacks wi12 nh12.1 nh12.2
set_option maxRecDepth 20000 in
theorem wlRX11_112 : Cond.methodLink RX11 112 yX11_cut ∈ tbG := tbk5 199 rfl rfl
theorem okRX11_112 : okS RX11 112 MX11_cut := ⟨wcX11_cut, wlRX11_112, wsX11_cut, wi12, nh12.1, nh12.2⟩
set_option maxRecDepth 20000 in
theorem wlRX11_117 : Cond.methodLink RX11 117 yX11_isText ∈ tbG := tbk5 215 rfl rfl
theorem okRX11_117 : okS RX11 117 MX11_isText := ⟨wcX11_isText, wlRX11_117, wsX11_isText, wi12, nh12.1, nh12.2⟩
set_option maxRecDepth 20000 in
theorem wlRX11_122 : Cond.methodLink RX11 122 yX11_from ∈ tbG := tbk5 219 rfl rfl
theorem okRX11_122 : okS RX11 122 MX11_from := ⟨wcX11_from, wlRX11_122, wsX11_from, wi12, nh12.1, nh12.2⟩
set_option maxRecDepth 20000 in
theorem wlRX11_134 : Cond.methodLink RX11 134 yX11_here ∈ tbG := tbk6 6 rfl rfl
theorem okRX11_134 : okV RX11 134 MX11_here := okV.of wcX11_here wlRX11_134 wnX11_here weX11_here wi12 nh12.1 nh12.2
set_option maxRecDepth 20000 in
theorem wlRX11_144 : Cond.methodLink RX11 144 yX11_readsRoom ∈ tbG := tbk6 10 rfl rfl
theorem okRX11_144 : okV RX11 144 MX11_readsRoom := okV.of wcX11_readsRoom wlRX11_144 wnX11_readsRoom weX11_readsRoom wi12 nh12.1 nh12.2
set_option maxRecDepth 20000 in
theorem wlRX11_148 : Cond.methodLink RX11 148 yX11_isTown ∈ tbG := tbk6 17 rfl rfl
theorem okRX11_148 : okS RX11 148 MX11_isTown := ⟨wcX11_isTown, wlRX11_148, wsX11_isTown, wi12, nh12.1, nh12.2⟩
set_option maxRecDepth 20000 in
theorem wlRX11_151 : Cond.methodLink RX11 151 yX11_clears ∈ tbG := tbk5 238 rfl rfl
theorem okRX11_151 : okV RX11 151 MX11_clears := okV.of wcX11_clears wlRX11_151 wnX11_clears weX11_clears wi12 nh12.1 nh12.2
set_option maxRecDepth 20000 in
theorem wlRX11_154 : Cond.methodLink RX11 154 yX11_readsPart ∈ tbG := tbk6 2 rfl rfl
theorem okRX11_154 : okV RX11 154 MX11_readsPart := okV.of wcX11_readsPart wlRX11_154 wnX11_readsPart weX11_readsPart wi12 nh12.1 nh12.2
set_option maxRecDepth 20000 in
theorem wlRX11_157 : Cond.methodLink RX11 157 yX11_readsLand ∈ tbG := tbk5 234 rfl rfl
theorem okRX11_157 : okV RX11 157 MX11_readsLand := okV.of wcX11_readsLand wlRX11_157 wnX11_readsLand weX11_readsLand wi12 nh12.1 nh12.2
set_option maxRecDepth 20000 in
theorem wlRX11_160 : Cond.methodLink RX11 160 yX11_letterOf ∈ tbG := tbk6 21 rfl rfl
theorem okRX11_160 : okV RX11 160 MX11_letterOf := okV.of wcX11_letterOf wlRX11_160 wnX11_letterOf weX11_letterOf wi12 nh12.1 nh12.2
set_option maxRecDepth 20000 in
theorem wlRX11_163 : Cond.methodLink RX11 163 yX11_faultOf ∈ tbG := tbk5 230 rfl rfl
theorem okRX11_163 : okV RX11 163 MX11_faultOf := okV.of wcX11_faultOf wlRX11_163 wnX11_faultOf weX11_faultOf wi12 nh12.1 nh12.2
set_option maxRecDepth 20000 in
theorem wlRX11_166 : Cond.methodLink RX11 166 yX11_start ∈ tbG := tbk6 84 rfl rfl
theorem okRX11_166 : okV RX11 166 MX11_start := okV.of wcX11_start wlRX11_166 wnX11_start weX11_start wi12 nh12.1 nh12.2
set_option maxRecDepth 20000 in
theorem wlRX11_172 : Cond.methodLink RX11 172 yX11_isShut ∈ tbG := tbk6 29 rfl rfl
theorem okRX11_172 : okV RX11 172 MX11_isShut := okV.of wcX11_isShut wlRX11_172 wnX11_isShut weX11_isShut wi12 nh12.1 nh12.2
set_option maxRecDepth 20000 in
theorem wlRX11_177 : Cond.methodLink RX11 177 yX11_back ∈ tbG := tbk6 65 rfl rfl
theorem okRX11_177 : okS RX11 177 MX11_back := ⟨wcX11_back, wlRX11_177, wsX11_back, wi12, nh12.1, nh12.2⟩
set_option maxRecDepth 20000 in
theorem wlRX11_183 : Cond.methodLink RX11 183 yX11_lengthOf ∈ tbG := tbk6 53 rfl rfl
theorem okRX11_183 : okV RX11 183 MX11_lengthOf := okV.of wcX11_lengthOf wlRX11_183 wnX11_lengthOf weX11_lengthOf wi12 nh12.1 nh12.2
set_option maxRecDepth 20000 in
theorem wlRX11_186 : Cond.methodLink RX11 186 yX11_letterAt ∈ tbG := tbk6 57 rfl rfl
theorem okRX11_186 : okV RX11 186 MX11_letterAt := okV.of wcX11_letterAt wlRX11_186 wnX11_letterAt weX11_letterAt wi12 nh12.1 nh12.2
set_option maxRecDepth 20000 in
theorem wlRX11_189 : Cond.methodLink RX11 189 yX11_stamp ∈ tbG := tbk6 61 rfl rfl
theorem okRX11_189 : okV RX11 189 MX11_stamp := okV.of wcX11_stamp wlRX11_189 wnX11_stamp weX11_stamp wi12 nh12.1 nh12.2
set_option maxRecDepth 20000 in
theorem wlRX11_193 : Cond.methodLink RX11 193 yX11_isWay ∈ tbG := tbk6 46 rfl rfl
theorem okRX11_193 : okS RX11 193 MX11_isWay := ⟨wcX11_isWay, wlRX11_193, wsX11_isWay, wi12, nh12.1, nh12.2⟩
set_option maxRecDepth 20000 in
theorem wlRX11_196 : Cond.methodLink RX11 196 yX11_findPaper ∈ tbG := tbk6 49 rfl rfl
theorem okRX11_196 : okV RX11 196 MX11_findPaper := okV.of wcX11_findPaper wlRX11_196 wnX11_findPaper weX11_findPaper wi12 nh12.1 nh12.2
set_option maxRecDepth 20000 in
theorem wlRX11_199 : Cond.methodLink RX11 199 yX11_byteOf ∈ tbG := tbk6 68 rfl rfl
theorem okRX11_199 : okS RX11 199 MX11_byteOf := ⟨wcX11_byteOf, wlRX11_199, wsX11_byteOf, wi12, nh12.1, nh12.2⟩
set_option maxRecDepth 20000 in
theorem wlRX11_202 : Cond.methodLink RX11 202 yX11_end ∈ tbG := tbk6 88 rfl rfl
theorem okRX11_202 : okV RX11 202 MX11_end := okV.of wcX11_end wlRX11_202 wnX11_end weX11_end wi12 nh12.1 nh12.2
set_option maxRecDepth 20000 in
theorem wlRX11_205 : Cond.methodLink RX11 205 yX11_isBegun ∈ tbG := tbk6 75 rfl rfl
theorem okRX11_205 : okV RX11 205 MX11_isBegun := okV.of wcX11_isBegun wlRX11_205 wnX11_isBegun weX11_isBegun wi12 nh12.1 nh12.2
set_option maxRecDepth 20000 in
theorem wlRX11_210 : Cond.methodLink RX11 210 yX11_judgedOf ∈ tbG := tbk6 80 rfl rfl
theorem okRX11_210 : okV RX11 210 MX11_judgedOf := okV.of wcX11_judgedOf wlRX11_210 wnX11_judgedOf weX11_judgedOf wi12 nh12.1 nh12.2
set_option maxRecDepth 20000 in
theorem wlRX11_214 : Cond.methodLink RX11 214 yX11_alike ∈ tbG := tbk6 100 rfl rfl
theorem okRX11_214 : okV RX11 214 MX11_alike := okV.of wcX11_alike wlRX11_214 wnX11_alike weX11_alike wi12 nh12.1 nh12.2
set_option maxRecDepth 20000 in
theorem wlRX11_217 : Cond.methodLink RX11 217 yX11_sameOf ∈ tbG := tbk6 96 rfl rfl
theorem okRX11_217 : okV RX11 217 MX11_sameOf := okV.of wcX11_sameOf wlRX11_217 wnX11_sameOf weX11_sameOf wi12 nh12.1 nh12.2
set_option maxRecDepth 20000 in
theorem wlRX11_220 : Cond.methodLink RX11 220 yX11_isUnseen ∈ tbG := tbk6 127 rfl rfl
theorem okRX11_220 : okV RX11 220 MX11_isUnseen := okV.of wcX11_isUnseen wlRX11_220 wnX11_isUnseen weX11_isUnseen wi12 nh12.1 nh12.2
set_option maxRecDepth 20000 in
theorem wlRX11_226 : Cond.methodLink RX11 226 yX11_findUnseen ∈ tbG := tbk6 123 rfl rfl
theorem okRX11_226 : okV RX11 226 MX11_findUnseen := okV.of wcX11_findUnseen wlRX11_226 wnX11_findUnseen weX11_findUnseen wi12 nh12.1 nh12.2
set_option maxRecDepth 20000 in
theorem wlRX11_229 : Cond.methodLink RX11 229 yX11_findBetween ∈ tbG := tbk6 131 rfl rfl
theorem okRX11_229 : okV RX11 229 MX11_findBetween := okV.of wcX11_findBetween wlRX11_229 wnX11_findBetween weX11_findBetween wi12 nh12.1 nh12.2
set_option maxRecDepth 20000 in
theorem wlRX11_243 : Cond.methodLink RX11 243 yX11_goesOn ∈ tbG := tbk6 135 rfl rfl
theorem okRX11_243 : okV RX11 243 MX11_goesOn := okV.of wcX11_goesOn wlRX11_243 wnX11_goesOn weX11_goesOn wi12 nh12.1 nh12.2
set_option maxRecDepth 20000 in
theorem wlRX11_246 : Cond.methodLink RX11 246 yX11_findShortest ∈ tbG := tbk6 119 rfl rfl
theorem okRX11_246 : okV RX11 246 MX11_findShortest := okV.of wcX11_findShortest wlRX11_246 wnX11_findShortest weX11_findShortest wi12 nh12.1 nh12.2
set_option maxRecDepth 20000 in
theorem wlRX11_252 : Cond.methodLink RX11 252 yX11_isAsked ∈ tbG := tbk6 108 rfl rfl
theorem okRX11_252 : okV RX11 252 MX11_isAsked := okV.of wcX11_isAsked wlRX11_252 wnX11_isAsked weX11_isAsked wi12 nh12.1 nh12.2
set_option maxRecDepth 20000 in
theorem wlRX11_256 : Cond.methodLink RX11 256 yX11_isTwo ∈ tbG := tbk6 112 rfl rfl
theorem okRX11_256 : okS RX11 256 MX11_isTwo := ⟨wcX11_isTwo, wlRX11_256, wsX11_isTwo, wi12, nh12.1, nh12.2⟩
set_option maxRecDepth 20000 in
theorem wlRX11_259 : Cond.methodLink RX11 259 yX11_shortestOf ∈ tbG := tbk6 115 rfl rfl
theorem okRX11_259 : okV RX11 259 MX11_shortestOf := okV.of wcX11_shortestOf wlRX11_259 wnX11_shortestOf weX11_shortestOf wi12 nh12.1 nh12.2
set_option maxRecDepth 20000 in
theorem wlRX11_263 : Cond.methodLink RX11 263 yX11_no ∈ tbG := tbk6 140 rfl rfl
theorem okRX11_263 : okS RX11 263 MX11_no := ⟨wcX11_no, wlRX11_263, wsX11_no, wi12, nh12.1, nh12.2⟩
set_option maxRecDepth 20000 in
theorem wlRX11_267 : Cond.methodLink RX11 267 yX11_leastUnseen ∈ tbG := tbk6 148 rfl rfl
theorem okRX11_267 : okV RX11 267 MX11_leastUnseen := okV.of wcX11_leastUnseen wlRX11_267 wnX11_leastUnseen weX11_leastUnseen wi12 nh12.1 nh12.2
set_option maxRecDepth 20000 in
theorem wlRX11_270 : Cond.methodLink RX11 270 yX11_findErrands ∈ tbG := tbk6 160 rfl rfl
theorem okRX11_270 : okV RX11 270 MX11_findErrands := okV.of wcX11_findErrands wlRX11_270 wnX11_findErrands weX11_findErrands wi12 nh12.1 nh12.2
set_option maxRecDepth 20000 in
theorem wlRX11_274 : Cond.methodLink RX11 274 yX11_stampsTo ∈ tbG := tbk6 164 rfl rfl
theorem okRX11_274 : okV RX11 274 MX11_stampsTo := okV.of wcX11_stampsTo wlRX11_274 wnX11_stampsTo weX11_stampsTo wi12 nh12.1 nh12.2
set_option maxRecDepth 20000 in
theorem wlRX11_277 : Cond.methodLink RX11 277 yX11_errandsOf ∈ tbG := tbk6 156 rfl rfl
theorem okRX11_277 : okV RX11 277 MX11_errandsOf := okV.of wcX11_errandsOf wlRX11_277 wnX11_errandsOf weX11_errandsOf wi12 nh12.1 nh12.2
set_option maxRecDepth 20000 in
theorem wlRX11_280 : Cond.methodLink RX11 280 yX11_cleanOf ∈ tbG := tbk6 172 rfl rfl
theorem okRX11_280 : okV RX11 280 MX11_cleanOf := okV.of wcX11_cleanOf wlRX11_280 wnX11_cleanOf weX11_cleanOf wi12 nh12.1 nh12.2
set_option maxRecDepth 20000 in
theorem wlRX11_283 : Cond.methodLink RX11 283 yX11_foundOf ∈ tbG := tbk6 180 rfl rfl
theorem okRX11_283 : okV RX11 283 MX11_foundOf := okV.of wcX11_foundOf wlRX11_283 wnX11_foundOf weX11_foundOf wi12 nh12.1 nh12.2
set_option maxRecDepth 20000 in
theorem wlRX11_286 : Cond.methodLink RX11 286 yX11_closedBy ∈ tbG := tbk6 197 rfl rfl
theorem okRX11_286 : okV RX11 286 MX11_closedBy := okV.of wcX11_closedBy wlRX11_286 wnX11_closedBy weX11_closedBy wi12 nh12.1 nh12.2
set_option maxRecDepth 20000 in
theorem wlRX11_289 : Cond.methodLink RX11 289 yX11_index ∈ tbG := tbk6 201 rfl rfl
theorem okRX11_289 : okS RX11 289 MX11_index := ⟨wcX11_index, wlRX11_289, wsX11_index, wi12, nh12.1, nh12.2⟩
set_option maxRecDepth 20000 in
theorem wlRX11_292 : Cond.methodLink RX11 292 yX11_findClosed ∈ tbG := tbk6 193 rfl rfl
theorem okRX11_292 : okV RX11 292 MX11_findClosed := okV.of wcX11_findClosed wlRX11_292 wnX11_findClosed weX11_findClosed wi12 nh12.1 nh12.2
set_option maxRecDepth 20000 in
theorem wlRX11_295 : Cond.methodLink RX11 295 yX11_follows ∈ tbG := tbk6 204 rfl rfl
theorem okRX11_295 : okV RX11 295 MX11_follows := okV.of wcX11_follows wlRX11_295 wnX11_follows weX11_follows wi12 nh12.1 nh12.2
set_option maxRecDepth 20000 in
theorem wlRX11_300 : Cond.methodLink RX11 300 yX11_manyOf ∈ tbG := tbk6 189 rfl rfl
theorem okRX11_300 : okV RX11 300 MX11_manyOf := okV.of wcX11_manyOf wlRX11_300 wnX11_manyOf weX11_manyOf wi12 nh12.1 nh12.2
set_option maxRecDepth 20000 in
theorem wlRX11_307 : Cond.methodLink RX11 307 yX11_lists ∈ tbG := tbk6 212 rfl rfl
theorem okRX11_307 : okV RX11 307 MX11_lists := okV.of wcX11_lists wlRX11_307 wnX11_lists weX11_lists wi12 nh12.1 nh12.2
set_option maxRecDepth 20000 in
theorem wlRX11_313 : Cond.methodLink RX11 313 yX11_listedAt ∈ tbG := tbk6 229 rfl rfl
theorem okRX11_313 : okV RX11 313 MX11_listedAt := okV.of wcX11_listedAt wlRX11_313 wnX11_listedAt weX11_listedAt wi12 nh12.1 nh12.2
set_option maxRecDepth 20000 in
theorem wlRX11_318 : Cond.methodLink RX11 318 yX11_arePlaces ∈ tbG := tbk6 237 rfl rfl
theorem okRX11_318 : okS RX11 318 MX11_arePlaces := ⟨wcX11_arePlaces, wlRX11_318, wsX11_arePlaces, wi12, nh12.1, nh12.2⟩
set_option maxRecDepth 20000 in
theorem wlRX11_321 : Cond.methodLink RX11 321 yX11_letsBy ∈ tbG := tbk7 1 rfl rfl
theorem okRX11_321 : okV RX11 321 MX11_letsBy := okV.of wcX11_letsBy wlRX11_321 wnX11_letsBy weX11_letsBy wi12 nh12.1 nh12.2
set_option maxRecDepth 20000 in
theorem wlRX11_324 : Cond.methodLink RX11 324 yX11_slipsOf ∈ tbG := tbk7 9 rfl rfl
theorem okRX11_324 : okV RX11 324 MX11_slipsOf := okV.of wcX11_slipsOf wlRX11_324 wnX11_slipsOf weX11_slipsOf wi12 nh12.1 nh12.2
set_option maxRecDepth 20000 in
theorem wlRX11_327 : Cond.methodLink RX11 327 yX11_ones ∈ tbG := tbk7 21 rfl rfl
theorem okRX11_327 : okS RX11 327 MX11_ones := ⟨wcX11_ones, wlRX11_327, wsX11_ones, wi12, nh12.1, nh12.2⟩
set_option maxRecDepth 20000 in
theorem wlRX11_330 : Cond.methodLink RX11 330 yX11_fewestNow ∈ tbG := tbk7 17 rfl rfl
theorem okRX11_330 : okV RX11 330 MX11_fewestNow := okV.of wcX11_fewestNow wlRX11_330 wnX11_fewestNow weX11_fewestNow wi12 nh12.1 nh12.2
set_option maxRecDepth 20000 in
theorem wlRX11_333 : Cond.methodLink RX11 333 yX11_joins ∈ tbG := tbk7 36 rfl rfl
theorem okRX11_333 : okV RX11 333 MX11_joins := okV.of wcX11_joins wlRX11_333 wnX11_joins weX11_joins wi12 nh12.1 nh12.2
set_option maxRecDepth 20000 in
theorem wlRX11_336 : Cond.methodLink RX11 336 yX11_findFar ∈ tbG := tbk7 32 rfl rfl
theorem okRX11_336 : okV RX11 336 MX11_findFar := okV.of wcX11_findFar wlRX11_336 wnX11_findFar weX11_findFar wi12 nh12.1 nh12.2
set_option maxRecDepth 20000 in
theorem wlRX11_340 : Cond.methodLink RX11 340 yX11_farOf ∈ tbG := tbk7 28 rfl rfl
theorem okRX11_340 : okV RX11 340 MX11_farOf := okV.of wcX11_farOf wlRX11_340 wnX11_farOf weX11_farOf wi12 nh12.1 nh12.2
set_option maxRecDepth 20000 in
theorem wlRX11_343 : Cond.methodLink RX11 343 yX11_changed ∈ tbG := tbk7 44 rfl rfl
theorem okRX11_343 : okV RX11 343 MX11_changed := okV.of wcX11_changed wlRX11_343 wnX11_changed weX11_changed wi12 nh12.1 nh12.2
set_option maxRecDepth 20000 in
theorem wlRX11_350 : Cond.methodLink RX11 350 yX11_count ∈ tbG := tbk7 66 rfl rfl
theorem okRX11_350 : okV RX11 350 MX11_count := okV.of wcX11_count wlRX11_350 wnX11_count weX11_count wi12 nh12.1 nh12.2
theorem wmmax_s : Cond.static Lib.Math.max.name ∈ tbG := tb_at 491 (by decide +kernel) rfl
theorem wmmax_c : Cond.code Lib.Math.max.name Lib.Math.max.code 2 (some .int) ∈ tbG := tb_at 492 (by decide +kernel) rfl
theorem wmRX10_412 : Cond.methodLink RX10 412 Lib.Math.max.name ∈ tbG := tb_at 523 (by decide +kernel) rfl
theorem wmRX0_49 : Cond.methodLink RX0 49 Lib.Math.max.name ∈ tbG := tb_at 898 (by decide +kernel) rfl
theorem wmRX2_80 : Cond.methodLink RX2 80 Lib.Math.max.name ∈ tbG := tb_at 490 (by decide +kernel) rfl
theorem wmRX4_41 : Cond.methodLink RX4 41 Lib.Math.max.name ∈ tbG := tb_at 802 (by decide +kernel) rfl
theorem wmmin_s : Cond.static Lib.Math.min.name ∈ tbG := tb_at 243 (by decide +kernel) rfl
theorem wmmin_c : Cond.code Lib.Math.min.name Lib.Math.min.code 2 (some .int) ∈ tbG := tb_at 244 (by decide +kernel) rfl
theorem wmRX10_315 : Cond.methodLink RX10 315 Lib.Math.min.name ∈ tbG := tb_at 965 (by decide +kernel) rfl
theorem wmRX1_84 : Cond.methodLink RX1 84 Lib.Math.min.name ∈ tbG := tb_at 664 (by decide +kernel) rfl
theorem wmRX5_26 : Cond.methodLink RX5 26 Lib.Math.min.name ∈ tbG := tb_at 506 (by decide +kernel) rfl
theorem wmRX8_15 : Cond.methodLink RX8 15 Lib.Math.min.name ∈ tbG := tb_at 242 (by decide +kernel) rfl
theorem wmabs_s : Cond.static Lib.Math.abs.name ∈ tbG := tb_at 896 (by decide +kernel) rfl
theorem wmabs_c : Cond.code Lib.Math.abs.name Lib.Math.abs.code 1 (some .int) ∈ tbG := tb_at 897 (by decide +kernel) rfl
theorem wmRX0_43 : Cond.methodLink RX0 43 Lib.Math.abs.name ∈ tbG := tb_at 895 (by decide +kernel) rfl
theorem wmi : Cond.initialized "java/lang/Math" ∈ tbG := wi14
set_option maxRecDepth 20000 in
theorem wnat : Cond.native arraycopyName ∈ tbG := tbk3 133 rfl rfl
set_option maxRecDepth 20000 in
theorem wsac : Cond.static arraycopyName ∈ tbG := tbk3 132 rfl rfl
theorem wiac : Cond.initialized "java/lang/System" ∈ tbG := wi15
set_option maxRecDepth 20000 in
theorem wkRX10_306 : Cond.constant RX10 306 (-2147483648) ∈ tbG := tbk4 223 rfl rfl
set_option maxRecDepth 20000 in
theorem wkRX11_116 : Cond.constant RX11 116 (-2147483648) ∈ tbG := tbk5 206 rfl rfl
set_option maxRecDepth 20000 in
theorem wkRJ6_265 : Cond.constant RJ6 265 (1431655765) ∈ tbG := tbk4 142 rfl rfl
set_option maxRecDepth 20000 in
theorem wkRJ6_266 : Cond.constant RJ6 266 (858993459) ∈ tbG := tbk4 143 rfl rfl
set_option maxRecDepth 20000 in
theorem wkRJ6_267 : Cond.constant RJ6 267 (252645135) ∈ tbG := tbk4 144 rfl rfl
set_option maxRecDepth 20000 in
theorem wkRX10_332 : Cond.constantLong RX10 332 (17) ∈ tbG := tbk5 28 rfl rfl
set_option maxRecDepth 20000 in
theorem wkRX10_334 : Cond.constantLong RX10 334 (31) ∈ tbG := tbk5 29 rfl rfl
set_option maxRecDepth 20000 in
theorem wkRX10_395 : Cond.constantLong RX10 395 (-9223372036854775808) ∈ tbG := tbk3 38 rfl rfl
set_option maxRecDepth 20000 in
theorem wkRX11_84 : Cond.constantLong RX11 84 (-9223372036854775808) ∈ tbG := tbk6 143 rfl rfl
set_option maxRecDepth 20000 in
theorem wkRX11_90 : Cond.constantLong RX11 90 (7) ∈ tbG := tbk6 20 rfl rfl
set_option maxRecDepth 20000 in
theorem wkRX11_96 : Cond.constantLong RX11 96 (3) ∈ tbG := tbk5 178 rfl rfl
set_option maxRecDepth 20000 in
theorem wkRX11_102 : Cond.constantLong RX11 102 (2) ∈ tbG := tbk5 182 rfl rfl
set_option maxRecDepth 20000 in
theorem wkRX11_120 : Cond.constantLong RX11 120 (255) ∈ tbG := tbk5 218 rfl rfl
set_option maxRecDepth 20000 in
theorem wkRX11_138 : Cond.constantLong RX11 138 (48) ∈ tbG := tbk6 14 rfl rfl
set_option maxRecDepth 20000 in
theorem wkRX11_140 : Cond.constantLong RX11 140 (57) ∈ tbG := tbk6 15 rfl rfl
set_option maxRecDepth 20000 in
theorem wkRX11_142 : Cond.constantLong RX11 142 (11) ∈ tbG := tbk6 16 rfl rfl
set_option maxRecDepth 20000 in
theorem wkRX11_175 : Cond.constantLong RX11 175 (511) ∈ tbG := tbk6 41 rfl rfl
set_option maxRecDepth 20000 in
theorem wkRX11_208 : Cond.constantLong RX11 208 (4) ∈ tbG := tbk6 79 rfl rfl
set_option maxRecDepth 20000 in
theorem wkRX11_250 : Cond.constantLong RX11 250 (-1) ∈ tbG := tbk6 139 rfl rfl
set_option maxRecDepth 20000 in
theorem wkRX11_298 : Cond.constantLong RX11 298 (12) ∈ tbG := tbk6 188 rfl rfl
set_option maxRecDepth 20000 in
theorem wkRX11_311 : Cond.constantLong RX11 311 (10) ∈ tbG := tbk6 228 rfl rfl
set_option maxRecDepth 20000 in
theorem wkRX11_316 : Cond.constantLong RX11 316 (2047) ∈ tbG := tbk7 0 rfl rfl
set_option maxRecDepth 20000 in
theorem wkRX11_346 : Cond.constantLong RX11 346 (17) ∈ tbG := tbk7 64 rfl rfl
set_option maxRecDepth 20000 in
theorem wkRX11_348 : Cond.constantLong RX11 348 (31) ∈ tbG := tbk7 65 rfl rfl
