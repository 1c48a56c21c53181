set_option maxRecDepth 100000 in
theorem mj_yk0 : lw_tbl[143]? = some (.code yX0_init cX0_init 1 (none)) := rfl
set_option maxRecDepth 100000 in
theorem mj_yk1 : lw_tbl[684]? = some (.code yX0_search cX0_search 5 (some .boolean)) := rfl
set_option maxRecDepth 100000 in
theorem mj_yk2 : lw_tbl[689]? = some (.code yX0_follow cX0_follow 12 (none)) := rfl
set_option maxRecDepth 100000 in
theorem mj_yk3 : lw_tbl[705]? = some (.code yX0_choose cX0_choose 11 (none)) := rfl
set_option maxRecDepth 100000 in
theorem mj_yk4 : lw_tbl[693]? = some (.code yX0_keepIfBetter cX0_keepIfBetter 2 (none)) := rfl
set_option maxRecDepth 100000 in
theorem mj_yk5 : lw_tbl[697]? = some (.code yX0_isChosenFirst cX0_isChosenFirst 2 (some .boolean)) := rfl
set_option maxRecDepth 100000 in
theorem mj_yk6 : lw_tbl[332]? = some (.code yX1_init cX1_init 2 (none)) := rfl
set_option maxRecDepth 100000 in
theorem mj_yk7 : lw_tbl[522]? = some (.code yX1_kind cX1_kind 1 (some .int)) := rfl
set_option maxRecDepth 100000 in
theorem mj_yk8 : lw_tbl[450]? = some (.code yX1_period cX1_period 1 (some .int)) := rfl
set_option maxRecDepth 100000 in
theorem mj_yk9 : lw_tbl[360]? = some (.code yX2_init cX2_init 2 (none)) := rfl
set_option maxRecDepth 100000 in
theorem mj_yk10 : lw_tbl[525]? = some (.code yX2_kind cX2_kind 1 (some .int)) := rfl
set_option maxRecDepth 100000 in
theorem mj_yk11 : lw_tbl[410]? = some (.code yX2_standCount cX2_standCount 1 (some .int)) := rfl
set_option maxRecDepth 100000 in
theorem mj_yk12 : lw_tbl[423]? = some (.code yX2_wayAt cX2_wayAt 2 (some .int)) := rfl
set_option maxRecDepth 100000 in
theorem mj_yk13 : lw_tbl[554]? = some (.code yX2_firstStandAt cX2_firstStandAt 2 (some .int)) := rfl
set_option maxRecDepth 100000 in
theorem mj_yk14 : lw_tbl[453]? = some (.code yX2_period cX2_period 1 (some .int)) := rfl
set_option maxRecDepth 100000 in
theorem mj_yk15 : lw_tbl[95]? = some (.code yX3_init cX3_init 1 (none)) := rfl
set_option maxRecDepth 100000 in
theorem mj_yk16 : lw_tbl[273]? = some (.code yX3_append cX3_append 5 (some .int)) := rfl
set_option maxRecDepth 100000 in
theorem mj_yk17 : lw_tbl[287]? = some (.code yX3_wipe cX3_wipe 2 (some .int)) := rfl
set_option maxRecDepth 100000 in
theorem mj_yk18 : lw_tbl[295]? = some (.code yX3_faultPlace cX3_faultPlace 6 (some .int)) := rfl
set_option maxRecDepth 100000 in
theorem mj_yk19 : lw_tbl[309]? = some (.code yX3_read cX3_read 6 (some (.object "PointsThrow$Yard"))) := rfl
set_option maxRecDepth 100000 in
theorem mj_yk20 : lw_tbl[314]? = some (.code yX3_switchCount cX3_switchCount 3 (some .int)) := rfl
set_option maxRecDepth 100000 in
theorem mj_yk21 : lw_tbl[320]? = some (.code yX3_endFrom cX3_endFrom 3 (some .int)) := rfl
set_option maxRecDepth 100000 in
theorem mj_yk22 : lw_tbl[324]? = some (.code yX3_pointIn cX3_pointIn 7 (some (.object "PointsThrow$Point"))) := rfl
set_option maxRecDepth 100000 in
theorem mj_yk23 : lw_tbl[279]? = some (.code yX3_codeIn cX3_codeIn 3 (some .int)) := rfl
set_option maxRecDepth 100000 in
theorem mj_yk24 : lw_tbl[276]? = some (.code yX3_lettersIn cX3_lettersIn 5 (some .int)) := rfl
set_option maxRecDepth 100000 in
theorem mj_yk25 : lw_tbl[301]? = some (.code yX3_kindOf cX3_kindOf 1 (some .int)) := rfl
set_option maxRecDepth 100000 in
theorem mj_yk26 : lw_tbl[298]? = some (.code yX3_placeOf cX3_placeOf 1 (some .int)) := rfl
set_option maxRecDepth 100000 in
theorem mj_yk27 : lw_tbl[335]? = some (.code yX4_init cX4_init 2 (none)) := rfl
set_option maxRecDepth 100000 in
theorem mj_yk28 : lw_tbl[529]? = some (.code yX4_kind cX4_kind 1 (some .int)) := rfl
set_option maxRecDepth 100000 in
theorem mj_yk29 : lw_tbl[415]? = some (.code yX4_standCount cX4_standCount 1 (some .int)) := rfl
set_option maxRecDepth 100000 in
theorem mj_yk30 : lw_tbl[427]? = some (.code yX4_wayAt cX4_wayAt 2 (some .int)) := rfl
set_option maxRecDepth 100000 in
theorem mj_yk31 : lw_tbl[556]? = some (.code yX4_firstStandAt cX4_firstStandAt 2 (some .int)) := rfl
set_option maxRecDepth 100000 in
theorem mj_yk32 : lw_tbl[456]? = some (.code yX4_period cX4_period 1 (some .int)) := rfl
set_option maxRecDepth 100000 in
theorem mj_yk33 : lw_tbl[443]? = some (.code yX4_turned cX4_turned 4 (some .int)) := rfl
set_option maxRecDepth 100000 in
theorem mj_yk34 : lw_tbl[435]? = some (.code yX4_placeBy cX4_placeBy 2 (some .int)) := rfl
set_option maxRecDepth 100000 in
theorem mj_yk35 : lw_tbl[785]? = some (.code yX4_canTurn cX4_canTurn 1 (some .boolean)) := rfl
set_option maxRecDepth 100000 in
theorem mj_yk36 : lw_tbl[129]? = some (.code yX5_init cX5_init 1 (none)) := rfl
set_option maxRecDepth 100000 in
theorem mj_yk37 : lw_tbl[568]? = some (.code yX5_send cX5_send 5 (some .int)) := rfl
set_option maxRecDepth 100000 in
theorem mj_yk38 : lw_tbl[617]? = some (.code yX5_roundOf cX5_roundOf 6 (some .int)) := rfl
set_option maxRecDepth 100000 in
theorem mj_yk39 : lw_tbl[575]? = some (.code yX5_roll cX5_roll 5 (some .int)) := rfl
set_option maxRecDepth 100000 in
theorem mj_yk40 : lw_tbl[621]? = some (.code yX5_isAsAhead cX5_isAsAhead 3 (some .boolean)) := rfl
set_option maxRecDepth 100000 in
theorem mj_yk41 : lw_tbl[111]? = some (.code yX6_init cX6_init 1 (none)) := rfl
set_option maxRecDepth 100000 in
theorem mj_yk42 : lw_tbl[504]? = some (.code yX6_reset cX6_reset 1 (none)) := rfl
set_option maxRecDepth 100000 in
theorem mj_yk43 : lw_tbl[821]? = some (.code yX6_copyFrom cX6_copyFrom 2 (none)) := rfl
set_option maxRecDepth 100000 in
theorem mj_yk44 : lw_tbl[583]? = some (.code yX6_put cX6_put 2 (none)) := rfl
set_option maxRecDepth 100000 in
theorem mj_yk45 : lw_tbl[592]? = some (.code yX6_trucksIn cX6_trucksIn 4 (some .int)) := rfl
set_option maxRecDepth 100000 in
theorem mj_yk46 : lw_tbl[600]? = some (.code yX6_truckIn cX6_truckIn 5 (some .int)) := rfl
set_option maxRecDepth 100000 in
theorem mj_yk47 : lw_tbl[201]? = some (.code yX7_init cX7_init 2 (none)) := rfl
set_option maxRecDepth 100000 in
theorem mj_yk48 : lw_tbl[777]? = some (.code yX7_watch cX7_watch 7 (none)) := rfl
set_option maxRecDepth 100000 in
theorem mj_yk49 : lw_tbl[796]? = some (.code yX7_trucksToNotice cX7_trucksToNotice 3 (some .int)) := rfl
set_option maxRecDepth 100000 in
theorem mj_yk50 : lw_tbl[812]? = some (.code yX7_trucksToTellApart cX7_trucksToTellApart 4 (some .int)) := rfl
set_option maxRecDepth 100000 in
theorem mj_yk51 : lw_tbl[804]? = some (.code yX7_orNone cX7_orNone 2 (some .int)) := rfl
set_option maxRecDepth 100000 in
theorem mj_yk52 : lw_tbl[789]? = some (.code yX7_fillStops cX7_fillStops 6 (none)) := rfl
set_option maxRecDepth 100000 in
theorem mj_yk53 : lw_tbl[799]? = some (.code yX7_firstDifference cX7_firstDifference 3 (some .int)) := rfl
set_option maxRecDepth 100000 in
theorem mj_yk54 : lw_tbl[352]? = some (.code yX8_init cX8_init 2 (none)) := rfl
set_option maxRecDepth 100000 in
theorem mj_yk55 : lw_tbl[528]? = some (.code yX8_kind cX8_kind 1 (some .int)) := rfl
set_option maxRecDepth 100000 in
theorem mj_yk56 : lw_tbl[413]? = some (.code yX8_standCount cX8_standCount 1 (some .int)) := rfl
set_option maxRecDepth 100000 in
theorem mj_yk57 : lw_tbl[426]? = some (.code yX8_wayAt cX8_wayAt 2 (some .int)) := rfl
set_option maxRecDepth 100000 in
theorem mj_yk58 : lw_tbl[178]? = some (.code yX9_init cX9_init 1 (none)) := rfl
set_option maxRecDepth 100000 in
theorem mj_yk59 : lw_tbl[715]? = some (.code yX9_fewest cX9_fewest 9 (some .int)) := rfl
set_option maxRecDepth 100000 in
theorem mj_yk60 : lw_tbl[719]? = some (.code yX9_encode cX9_encode 5 (some .int)) := rfl
set_option maxRecDepth 100000 in
theorem mj_yk61 : lw_tbl[724]? = some (.code yX9_makeRoom cX9_makeRoom 2 (none)) := rfl
set_option maxRecDepth 100000 in
theorem mj_yk62 : lw_tbl[736]? = some (.code yX9_leave cX9_leave 12 (none)) := rfl
set_option maxRecDepth 100000 in
theorem mj_yk63 : lw_tbl[740]? = some (.code yX9_goOn cX9_goOn 8 (none)) := rfl
set_option maxRecDepth 100000 in
theorem mj_yk64 : lw_tbl[732]? = some (.code yX9_offer cX9_offer 5 (none)) := rfl
set_option maxRecDepth 100000 in
theorem mj_yk65 : lw_tbl[751]? = some (.code yX9_startNext cX9_startNext 3 (none)) := rfl
set_option maxRecDepth 100000 in
theorem mj_yk66 : lw_tbl[372]? = some (.code yX10_init cX10_init 4 (none)) := rfl
set_option maxRecDepth 100000 in
theorem mj_yk67 : lw_tbl[579]? = some (.code yX10_pass cX10_pass 5 (some .int)) := rfl
set_option maxRecDepth 100000 in
theorem mj_yk68 : lw_tbl[652]? = some (.code yX10_placeFrom cX10_placeFrom 4 (some .int)) := rfl
set_option maxRecDepth 100000 in
theorem mj_yk69 : lw_tbl[745]? = some (.code yX10_standAfter cX10_standAfter 4 (some .int)) := rfl
set_option maxRecDepth 100000 in
theorem mj_yk70 : lw_tbl[701]? = some (.code yX10_canLead cX10_canLead 3 (some .boolean)) := rfl
set_option maxRecDepth 100000 in
theorem mj_yk71 : lw_tbl[402]? = some (.code yX10_tellStands cX10_tellStands 5 (none)) := rfl
set_option maxRecDepth 100000 in
theorem mj_yk72 : lw_tbl[464]? = some (.code yX10_tellSidings cX10_tellSidings 8 (none)) := rfl
set_option maxRecDepth 100000 in
theorem mj_yk73 : lw_tbl[638]? = some (.code yX10_countOn cX10_countOn 5 (none)) := rfl
set_option maxRecDepth 100000 in
theorem mj_yk74 : lw_tbl[664]? = some (.code yX10_countBack cX10_countBack 5 (none)) := rfl
set_option maxRecDepth 100000 in
theorem mj_yk75 : lw_tbl[642]? = some (.code yX10_startCount cX10_startCount 2 (none)) := rfl
set_option maxRecDepth 100000 in
theorem mj_yk76 : lw_tbl[647]? = some (.code yX10_share cX10_share 7 (none)) := rfl
set_option maxRecDepth 100000 in
theorem mj_yk77 : lw_tbl[384]? = some (.code yX10_nextOf cX10_nextOf 8 (some .int)) := rfl
set_option maxRecDepth 100000 in
theorem mj_yk78 : lw_tbl[380]? = some (.code yX10_reachedFrom cX10_reachedFrom 4 (some .int)) := rfl
set_option maxRecDepth 100000 in
theorem mj_yk79 : lw_tbl[388]? = some (.code yX10_hasLoop cX10_hasLoop 3 (some .boolean)) := rfl
set_option maxRecDepth 100000 in
theorem mj_yk80 : lw_tbl[392]? = some (.code yX10_ordered cX10_ordered 6 (some (.array .int))) := rfl
set_option maxRecDepth 100000 in
theorem mj_yk81 : lw_tbl[87]? = some (.code yX11_init cX11_init 1 (none)) := rfl
set_option maxRecDepth 100000 in
theorem mj_yk82 : lw_tbl[269]? = some (.code yX11_letters cX11_letters 3 (some .int)) := rfl
set_option maxRecDepth 100000 in
theorem mj_yk83 : lw_tbl[283]? = some (.code yX11_blank cX11_blank 1 (some .int)) := rfl
set_option maxRecDepth 100000 in
theorem mj_yk84 : lw_tbl[291]? = some (.code yX11_fault cX11_fault 1 (some .int)) := rfl
set_option maxRecDepth 100000 in
theorem mj_yk85 : lw_tbl[305]? = some (.code yX11_yard cX11_yard 2 (some .int)) := rfl
set_option maxRecDepth 100000 in
theorem mj_yk86 : lw_tbl[511]? = some (.code yX11_about cX11_about 5 (some .int)) := rfl
set_option maxRecDepth 100000 in
theorem mj_yk87 : lw_tbl[536]? = some (.code yX11_as cX11_as 3 (some .int)) := rfl
set_option maxRecDepth 100000 in
theorem mj_yk88 : lw_tbl[546]? = some (.code yX11_lever cX11_lever 5 (some .int)) := rfl
set_option maxRecDepth 100000 in
theorem mj_yk89 : lw_tbl[560]? = some (.code yX11_anew cX11_anew 2 (some .int)) := rfl
set_option maxRecDepth 100000 in
theorem mj_yk90 : lw_tbl[564]? = some (.code yX11_down cX11_down 2 (some .int)) := rfl
set_option maxRecDepth 100000 in
theorem mj_yk91 : lw_tbl[587]? = some (.code yX11_many cX11_many 2 (some .int)) := rfl
set_option maxRecDepth 100000 in
theorem mj_yk92 : lw_tbl[596]? = some (.code yX11_truck cX11_truck 3 (some .int)) := rfl
set_option maxRecDepth 100000 in
theorem mj_yk93 : lw_tbl[604]? = some (.code yX11_moves cX11_moves 1 (some .int)) := rfl
set_option maxRecDepth 100000 in
theorem mj_yk94 : lw_tbl[613]? = some (.code yX11_round cX11_round 1 (some .int)) := rfl
set_option maxRecDepth 100000 in
theorem mj_yk95 : lw_tbl[625]? = some (.code yX11_straight cX11_straight 1 (some .int)) := rfl
set_option maxRecDepth 100000 in
theorem mj_yk96 : lw_tbl[629]? = some (.code yX11_nth cX11_nth 3 (some .int)) := rfl
set_option maxRecDepth 100000 in
theorem mj_yk97 : lw_tbl[656]? = some (.code yX11_behind cX11_behind 4 (some .int)) := rfl
set_option maxRecDepth 100000 in
theorem mj_yk98 : lw_tbl[660]? = some (.code yX11_ago cX11_ago 4 (some .int)) := rfl
set_option maxRecDepth 100000 in
theorem mj_yk99 : lw_tbl[668]? = some (.code yX11_want cX11_want 2 (some .int)) := rfl
set_option maxRecDepth 100000 in
theorem mj_yk100 : lw_tbl[672]? = some (.code yX11_clear cX11_clear 2 (some .int)) := rfl
set_option maxRecDepth 100000 in
theorem mj_yk101 : lw_tbl[676]? = some (.code yX11_begin cX11_begin 2 (some .int)) := rfl
set_option maxRecDepth 100000 in
theorem mj_yk102 : lw_tbl[711]? = some (.code yX11_hands cX11_hands 1 (some .int)) := rfl
set_option maxRecDepth 100000 in
theorem mj_yk103 : lw_tbl[756]? = some (.code yX11_empty cX11_empty 2 (some .int)) := rfl
set_option maxRecDepth 100000 in
theorem mj_yk104 : lw_tbl[765]? = some (.code yX11_which cX11_which 3 (some .int)) := rfl
set_option maxRecDepth 100000 in
theorem mj_yk105 : lw_tbl[773]? = some (.code yX11_noticed cX11_noticed 1 (some .int)) := rfl
set_option maxRecDepth 100000 in
theorem mj_yk106 : lw_tbl[808]? = some (.code yX11_apart cX11_apart 1 (some .int)) := rfl
set_option maxRecDepth 100000 in
theorem mj_yk107 : lw_tbl[817]? = some (.code yX11_image cX11_image 1 (some .int)) := rfl
set_option maxRecDepth 100000 in
theorem mj_yk108 : lw_tbl[826]? = some (.code yX11_restore cX11_restore 1 (some .int)) := rfl
set_option maxRecDepth 100000 in
theorem mj_yk109 : lw_tbl[830]? = some (.code yX11_count cX11_count 2 (some .int)) := rfl
set_option maxRecDepth 100000 in
theorem mj_yk110 : lw_tbl[834]? = some (.code yX11_digest cX11_digest 4 (some .long)) := rfl
set_option maxRecDepth 100000 in
theorem mj_yk111 : lw_tbl[839]? = some (.code yX11_digestOfSwitches cX11_digestOfSwitches 8 (some .long)) := rfl
set_option maxRecDepth 100000 in
theorem mj_yk112 : lw_tbl[846]? = some (.code yX11_digestOfSidings cX11_digestOfSidings 8 (some .long)) := rfl
set_option maxRecDepth 100000 in
theorem mj_yk113 : lw_tbl[850]? = some (.code yX11_digestOfTrials cX11_digestOfTrials 6 (some .long)) := rfl
set_option maxRecDepth 100000 in
theorem mj_yk114 : lw_tbl[515]? = some (.code yX11_isPoint cX11_isPoint 2 (some .boolean)) := rfl
set_option maxRecDepth 100000 in
theorem mj_yk115 : lw_tbl[633]? = some (.code yX11_isStraightYard cX11_isStraightYard 1 (some .boolean)) := rfl
set_option maxRecDepth 100000 in
theorem mj_yk116 : lw_tbl[680]? = some (.code yX11_mayPlan cX11_mayPlan 1 (some .boolean)) := rfl
set_option maxRecDepth 100000 in
theorem mj_yk117 : lw_tbl[608]? = some (.code yX11_spareStands cX11_spareStands 1 (some (.array .int))) := rfl
set_option maxRecDepth 100000 in
theorem mj_yk118 : lw_tbl[760]? = some (.code yX11_findEmptyAhead cX11_findEmptyAhead 4 (none)) := rfl
set_option maxRecDepth 100000 in
theorem mj_yk119 : lw_tbl[769]? = some (.code yX11_isExplainedBy cX11_isExplainedBy 4 (some .boolean)) := rfl
set_option maxRecDepth 100000 in
theorem mj_yk120 : lw_tbl[467]? = some (.code yX11_isSiding cX11_isSiding 1 (some .boolean)) := rfl
set_option maxRecDepth 100000 in
theorem mj_yk121 : lw_tbl[539]? = some (.code yX11_canBeTakenAs cX11_canBeTakenAs 2 (some .boolean)) := rfl
set_option maxRecDepth 100000 in
theorem mj_yk122 : lw_tbl[858]? = some (.code yX12_init cX12_init 1 (none)) := rfl
set_option maxRecDepth 100000 in
theorem mj_yk123 : lw_tbl[992]? = some (.code yX12_in cX12_in 6 (some .boolean)) := rfl
set_option maxRecDepth 100000 in
theorem mj_yk124 : lw_tbl[967]? = some (.code yX12_letters cX12_letters 9 (some .int)) := rfl
set_option maxRecDepth 100000 in
theorem mj_yk125 : lw_tbl[972]? = some (.code yX12_blank cX12_blank 2 (some .int)) := rfl
set_option maxRecDepth 100000 in
theorem mj_yk126 : lw_tbl[987]? = some (.code yX12_signOf cX12_signOf 1 (some .int)) := rfl
set_option maxRecDepth 100000 in
theorem mj_yk127 : lw_tbl[984]? = some (.code yX12_go cX12_go 4 (some .boolean)) := rfl
set_option maxRecDepth 100000 in
theorem mj_yk128 : lw_tbl[980]? = some (.code yX12_faultOf cX12_faultOf 2 (some .int)) := rfl
set_option maxRecDepth 100000 in
theorem mj_yk129 : lw_tbl[976]? = some (.code yX12_fault cX12_fault 1 (some .int)) := rfl
set_option maxRecDepth 100000 in
theorem mj_yk130 : lw_tbl[998]? = some (.code yX12_yard cX12_yard 3 (some .int)) := rfl
set_option maxRecDepth 100000 in
theorem mj_yk131 : lw_tbl[1006]? = some (.code yX12_isPoint cX12_isPoint 2 (some .boolean)) := rfl
set_option maxRecDepth 100000 in
theorem mj_yk132 : lw_tbl[1039]? = some (.code yX12_lacks cX12_lacks 1 (some .boolean)) := rfl
set_option maxRecDepth 100000 in
theorem mj_yk133 : lw_tbl[1014]? = some (.code yX12_standMany cX12_standMany 3 (some .int)) := rfl
set_option maxRecDepth 100000 in
theorem mj_yk134 : lw_tbl[1018]? = some (.code yX12_wayAt cX12_wayAt 4 (some .int)) := rfl
set_option maxRecDepth 100000 in
theorem mj_yk135 : lw_tbl[1059]? = some (.code yX12_turned cX12_turned 3 (some .int)) := rfl
set_option maxRecDepth 100000 in
theorem mj_yk136 : lw_tbl[1010]? = some (.code yX12_aboutOf cX12_aboutOf 3 (some .int)) := rfl
set_option maxRecDepth 100000 in
theorem mj_yk137 : lw_tbl[1002]? = some (.code yX12_about cX12_about 3 (some .int)) := rfl
set_option maxRecDepth 100000 in
theorem mj_yk138 : lw_tbl[1022]? = some (.code yX12_as cX12_as 4 (some .int)) := rfl
set_option maxRecDepth 100000 in
theorem mj_yk139 : lw_tbl[1031]? = some (.code yX12_leastStand cX12_leastStand 4 (some .int)) := rfl
set_option maxRecDepth 100000 in
theorem mj_yk140 : lw_tbl[1027]? = some (.code yX12_lever cX12_lever 4 (some .int)) := rfl
set_option maxRecDepth 100000 in
theorem mj_yk141 : lw_tbl[1035]? = some (.code yX12_anew cX12_anew 3 (some .int)) := rfl
set_option maxRecDepth 100000 in
theorem mj_yk142 : lw_tbl[1047]? = some (.code yX12_layTried cX12_layTried 2 (none)) := rfl
set_option maxRecDepth 100000 in
theorem mj_yk143 : lw_tbl[1055]? = some (.code yX12_move cX12_move 3 (none)) := rfl
set_option maxRecDepth 100000 in
theorem mj_yk144 : lw_tbl[1051]? = some (.code yX12_goTruck cX12_goTruck 3 (some .int)) := rfl
set_option maxRecDepth 100000 in
theorem mj_yk145 : lw_tbl[1043]? = some (.code yX12_down cX12_down 3 (some .int)) := rfl
set_option maxRecDepth 100000 in
theorem mj_yk146 : lw_tbl[1068]? = some (.code yX12_manyIn cX12_manyIn 4 (some .int)) := rfl
set_option maxRecDepth 100000 in
theorem mj_yk147 : lw_tbl[1063]? = some (.code yX12_many cX12_many 2 (some .int)) := rfl
set_option maxRecDepth 100000 in
theorem mj_yk148 : lw_tbl[1072]? = some (.code yX12_truck cX12_truck 5 (some .int)) := rfl
set_option maxRecDepth 100000 in
theorem mj_yk149 : lw_tbl[1081]? = some (.code yX12_movesOf cX12_movesOf 2 (some .int)) := rfl
set_option maxRecDepth 100000 in
theorem mj_yk150 : lw_tbl[1077]? = some (.code yX12_moves cX12_moves 1 (some .int)) := rfl
set_option maxRecDepth 100000 in
theorem mj_yk151 : lw_tbl[1085]? = some (.code yX12_round cX12_round 5 (some .int)) := rfl
set_option maxRecDepth 100000 in
theorem mj_yk152 : lw_tbl[1097]? = some (.code yX12_reach cX12_reach 7 (some .int)) := rfl
set_option maxRecDepth 100000 in
theorem mj_yk153 : lw_tbl[1093]? = some (.code yX12_isStraight cX12_isStraight 4 (some .boolean)) := rfl
set_option maxRecDepth 100000 in
theorem mj_yk154 : lw_tbl[1089]? = some (.code yX12_straight cX12_straight 1 (some .int)) := rfl
set_option maxRecDepth 100000 in
theorem mj_yk155 : lw_tbl[1110]? = some (.code yX12_isReady cX12_isReady 6 (some .boolean)) := rfl
set_option maxRecDepth 100000 in
theorem mj_yk156 : lw_tbl[1114]? = some (.code yX12_send cX12_send 9 (none)) := rfl
set_option maxRecDepth 100000 in
theorem mj_yk157 : lw_tbl[1106]? = some (.code yX12_layBehind cX12_layBehind 8 (none)) := rfl
set_option maxRecDepth 100000 in
theorem mj_yk158 : lw_tbl[1101]? = some (.code yX12_nth cX12_nth 2 (some .int)) := rfl
set_option maxRecDepth 100000 in
theorem mj_yk159 : lw_tbl[1118]? = some (.code yX12_behind cX12_behind 3 (some .int)) := rfl
set_option maxRecDepth 100000 in
theorem mj_yk160 : lw_tbl[1122]? = some (.code yX12_ago cX12_ago 3 (some .int)) := rfl
set_option maxRecDepth 100000 in
theorem mj_yk161 : lw_tbl[1126]? = some (.code yX12_want cX12_want 2 (some .int)) := rfl
set_option maxRecDepth 100000 in
theorem mj_yk162 : lw_tbl[1130]? = some (.code yX12_clear cX12_clear 2 (some .int)) := rfl
set_option maxRecDepth 100000 in
theorem mj_yk163 : lw_tbl[1148]? = some (.code yX12_isTrue cX12_isTrue 4 (some .boolean)) := rfl
set_option maxRecDepth 100000 in
theorem mj_yk164 : lw_tbl[1140]? = some (.code yX12_standsInAll cX12_standsInAll 3 (some .int)) := rfl
set_option maxRecDepth 100000 in
theorem mj_yk165 : lw_tbl[1144]? = some (.code yX12_layStands cX12_layStands 4 (none)) := rfl
set_option maxRecDepth 100000 in
theorem mj_yk166 : lw_tbl[1157]? = some (.code yX12_codeOf cX12_codeOf 3 (some .int)) := rfl
set_option maxRecDepth 100000 in
theorem mj_yk167 : lw_tbl[1134]? = some (.code yX12_begin cX12_begin 8 (some .int)) := rfl
set_option maxRecDepth 100000 in
theorem mj_yk168 : lw_tbl[1161]? = some (.code yX12_throwAll cX12_throwAll 9 (none)) := rfl
set_option maxRecDepth 100000 in
theorem mj_yk169 : lw_tbl[1152]? = some (.code yX12_hands cX12_hands 5 (some .int)) := rfl
set_option maxRecDepth 100000 in
theorem mj_yk170 : lw_tbl[1169]? = some (.code yX12_emptyOf cX12_emptyOf 3 (some .int)) := rfl
set_option maxRecDepth 100000 in
theorem mj_yk171 : lw_tbl[1165]? = some (.code yX12_empty cX12_empty 2 (some .int)) := rfl
set_option maxRecDepth 100000 in
theorem mj_yk172 : lw_tbl[1173]? = some (.code yX12_which cX12_which 3 (some .int)) := rfl
set_option maxRecDepth 100000 in
theorem mj_yk173 : lw_tbl[1189]? = some (.code yX12_doesTurn cX12_doesTurn 3 (some .boolean)) := rfl
set_option maxRecDepth 100000 in
theorem mj_yk174 : lw_tbl[1185]? = some (.code yX12_layGoes cX12_layGoes 3 (none)) := rfl
set_option maxRecDepth 100000 in
theorem mj_yk175 : lw_tbl[1193]? = some (.code yX12_unlike cX12_unlike 4 (some .int)) := rfl
set_option maxRecDepth 100000 in
theorem mj_yk176 : lw_tbl[1181]? = some (.code yX12_noticedOf cX12_noticedOf 7 (some .int)) := rfl
set_option maxRecDepth 100000 in
theorem mj_yk177 : lw_tbl[1177]? = some (.code yX12_noticed cX12_noticed 1 (some .int)) := rfl
set_option maxRecDepth 100000 in
theorem mj_yk178 : lw_tbl[1197]? = some (.code yX12_apart cX12_apart 1 (some .int)) := rfl
set_option maxRecDepth 100000 in
theorem mj_yk179 : lw_tbl[1201]? = some (.code yX12_image cX12_image 2 (some .int)) := rfl
set_option maxRecDepth 100000 in
theorem mj_yk180 : lw_tbl[1205]? = some (.code yX12_restore cX12_restore 2 (some .int)) := rfl
set_option maxRecDepth 100000 in
theorem mj_yk181 : lw_tbl[1213]? = some (.code yX12_countOf cX12_countOf 2 (some .int)) := rfl
set_option maxRecDepth 100000 in
theorem mj_yk182 : lw_tbl[1209]? = some (.code yX12_count cX12_count 2 (some .int)) := rfl
set_option maxRecDepth 100000 in
theorem mj_yk183 : lw_tbl[1222]? = some (.code yX12_say cX12_say 3 (none)) := rfl
set_option maxRecDepth 100000 in
theorem mj_yk184 : lw_tbl[1227]? = some (.code yX12_sayYard cX12_sayYard 2 (none)) := rfl
set_option maxRecDepth 100000 in
theorem mj_yk185 : lw_tbl[1217]? = some (.code yX12_digest cX12_digest 3 (some .long)) := rfl
set_option maxRecDepth 100000 in
theorem mj_yk186 : lw_tbl[395]? = some (.code yJ6_bitCount_0f7a4 cJ6_bitCount_0f7a4 1 (some .int)) := rfl
set_option maxRecDepth 100000 in
theorem mj_yk187 : lw_tbl[460]? = some (.code yJ9_floorMod_7cf53 cJ9_floorMod_7cf53 3 (some .int)) := rfl
set_option maxRecDepth 100000 in
theorem mj_yk188 : lw_tbl[327]? = some (.code yJ9_max_7cf53 cJ9_max_7cf53 2 (some .int)) := rfl
set_option maxRecDepth 100000 in
theorem mj_yk189 : lw_tbl[376]? = some (.code yJ9_min_7cf53 cJ9_min_7cf53 2 (some .int)) := rfl
set_option maxRecDepth 100000 in
theorem mj_yk190 : lw_tbl[507]? = some (.code yJ7_fill_53178 cJ7_fill_53178 4 (none)) := rfl
set_option maxRecDepth 100000 in
theorem mj_yk191 : lw_tbl[728]? = some (.code yJ7_fill_031fb cJ7_fill_031fb 4 (none)) := rfl
set_option maxRecDepth 100000 in
set_option maxHeartbeats 4000000 in
theorem mj_YOK_Y : mj_YOK mj_Y := by
  intro k y cc mL ret h hn
  match k, h with
  | 0, h => cases h; exact ⟨List.mem_filter.mpr ⟨List.mem_of_getElem? mj_yk0, rfl⟩, by decide⟩
  | 1, h => cases h; exact ⟨List.mem_filter.mpr ⟨List.mem_of_getElem? mj_yk1, rfl⟩, by decide⟩
  | 2, h => cases h; exact ⟨List.mem_filter.mpr ⟨List.mem_of_getElem? mj_yk2, rfl⟩, by decide⟩
  | 3, h => cases h; exact ⟨List.mem_filter.mpr ⟨List.mem_of_getElem? mj_yk3, rfl⟩, by decide⟩
  | 4, h => cases h; exact ⟨List.mem_filter.mpr ⟨List.mem_of_getElem? mj_yk4, rfl⟩, by decide⟩
  | 5, h => cases h; exact ⟨List.mem_filter.mpr ⟨List.mem_of_getElem? mj_yk5, rfl⟩, by decide⟩
  | 6, h => cases h; exact ⟨List.mem_filter.mpr ⟨List.mem_of_getElem? mj_yk6, rfl⟩, by decide⟩
  | 7, h => cases h; exact ⟨List.mem_filter.mpr ⟨List.mem_of_getElem? mj_yk7, rfl⟩, by decide⟩
  | 8, h => cases h; exact ⟨List.mem_filter.mpr ⟨List.mem_of_getElem? mj_yk8, rfl⟩, by decide⟩
  | 9, h => cases h; exact ⟨List.mem_filter.mpr ⟨List.mem_of_getElem? mj_yk9, rfl⟩, by decide⟩
  | 10, h => cases h; exact ⟨List.mem_filter.mpr ⟨List.mem_of_getElem? mj_yk10, rfl⟩, by decide⟩
  | 11, h => cases h; exact ⟨List.mem_filter.mpr ⟨List.mem_of_getElem? mj_yk11, rfl⟩, by decide⟩
  | 12, h => cases h; exact ⟨List.mem_filter.mpr ⟨List.mem_of_getElem? mj_yk12, rfl⟩, by decide⟩
  | 13, h => cases h; exact ⟨List.mem_filter.mpr ⟨List.mem_of_getElem? mj_yk13, rfl⟩, by decide⟩
  | 14, h => cases h; exact ⟨List.mem_filter.mpr ⟨List.mem_of_getElem? mj_yk14, rfl⟩, by decide⟩
  | 15, h => cases h; exact ⟨List.mem_filter.mpr ⟨List.mem_of_getElem? mj_yk15, rfl⟩, by decide⟩
  | 16, h => cases h; exact ⟨List.mem_filter.mpr ⟨List.mem_of_getElem? mj_yk16, rfl⟩, by decide⟩
  | 17, h => cases h; exact ⟨List.mem_filter.mpr ⟨List.mem_of_getElem? mj_yk17, rfl⟩, by decide⟩
  | 18, h => cases h; exact ⟨List.mem_filter.mpr ⟨List.mem_of_getElem? mj_yk18, rfl⟩, by decide⟩
  | 19, h => cases h; exact ⟨List.mem_filter.mpr ⟨List.mem_of_getElem? mj_yk19, rfl⟩, by decide⟩
  | 20, h => cases h; exact ⟨List.mem_filter.mpr ⟨List.mem_of_getElem? mj_yk20, rfl⟩, by decide⟩
  | 21, h => cases h; exact ⟨List.mem_filter.mpr ⟨List.mem_of_getElem? mj_yk21, rfl⟩, by decide⟩
  | 22, h => cases h; exact ⟨List.mem_filter.mpr ⟨List.mem_of_getElem? mj_yk22, rfl⟩, by decide⟩
  | 23, h => cases h; exact ⟨List.mem_filter.mpr ⟨List.mem_of_getElem? mj_yk23, rfl⟩, by decide⟩
  | 24, h => cases h; exact ⟨List.mem_filter.mpr ⟨List.mem_of_getElem? mj_yk24, rfl⟩, by decide⟩
  | 25, h => cases h; exact ⟨List.mem_filter.mpr ⟨List.mem_of_getElem? mj_yk25, rfl⟩, by decide⟩
  | 26, h => cases h; exact ⟨List.mem_filter.mpr ⟨List.mem_of_getElem? mj_yk26, rfl⟩, by decide⟩
  | 27, h => cases h; exact ⟨List.mem_filter.mpr ⟨List.mem_of_getElem? mj_yk27, rfl⟩, by decide⟩
  | 28, h => cases h; exact ⟨List.mem_filter.mpr ⟨List.mem_of_getElem? mj_yk28, rfl⟩, by decide⟩
  | 29, h => cases h; exact ⟨List.mem_filter.mpr ⟨List.mem_of_getElem? mj_yk29, rfl⟩, by decide⟩
  | 30, h => cases h; exact ⟨List.mem_filter.mpr ⟨List.mem_of_getElem? mj_yk30, rfl⟩, by decide⟩
  | 31, h => cases h; exact ⟨List.mem_filter.mpr ⟨List.mem_of_getElem? mj_yk31, rfl⟩, by decide⟩
  | 32, h => cases h; exact ⟨List.mem_filter.mpr ⟨List.mem_of_getElem? mj_yk32, rfl⟩, by decide⟩
  | 33, h => cases h; exact ⟨List.mem_filter.mpr ⟨List.mem_of_getElem? mj_yk33, rfl⟩, by decide⟩
  | 34, h => cases h; exact ⟨List.mem_filter.mpr ⟨List.mem_of_getElem? mj_yk34, rfl⟩, by decide⟩
  | 35, h => cases h; exact ⟨List.mem_filter.mpr ⟨List.mem_of_getElem? mj_yk35, rfl⟩, by decide⟩
  | 36, h => cases h; exact ⟨List.mem_filter.mpr ⟨List.mem_of_getElem? mj_yk36, rfl⟩, by decide⟩
  | 37, h => cases h; exact ⟨List.mem_filter.mpr ⟨List.mem_of_getElem? mj_yk37, rfl⟩, by decide⟩
  | 38, h => cases h; exact ⟨List.mem_filter.mpr ⟨List.mem_of_getElem? mj_yk38, rfl⟩, by decide⟩
  | 39, h => cases h; exact ⟨List.mem_filter.mpr ⟨List.mem_of_getElem? mj_yk39, rfl⟩, by decide⟩
  | 40, h => cases h; exact ⟨List.mem_filter.mpr ⟨List.mem_of_getElem? mj_yk40, rfl⟩, by decide⟩
  | 41, h => cases h; exact ⟨List.mem_filter.mpr ⟨List.mem_of_getElem? mj_yk41, rfl⟩, by decide⟩
  | 42, h => cases h; exact ⟨List.mem_filter.mpr ⟨List.mem_of_getElem? mj_yk42, rfl⟩, by decide⟩
  | 43, h => cases h; exact ⟨List.mem_filter.mpr ⟨List.mem_of_getElem? mj_yk43, rfl⟩, by decide⟩
  | 44, h => cases h; exact ⟨List.mem_filter.mpr ⟨List.mem_of_getElem? mj_yk44, rfl⟩, by decide⟩
  | 45, h => cases h; exact ⟨List.mem_filter.mpr ⟨List.mem_of_getElem? mj_yk45, rfl⟩, by decide⟩
  | 46, h => cases h; exact ⟨List.mem_filter.mpr ⟨List.mem_of_getElem? mj_yk46, rfl⟩, by decide⟩
  | 47, h => cases h; exact ⟨List.mem_filter.mpr ⟨List.mem_of_getElem? mj_yk47, rfl⟩, by decide⟩
  | 48, h => cases h; exact ⟨List.mem_filter.mpr ⟨List.mem_of_getElem? mj_yk48, rfl⟩, by decide⟩
  | 49, h => cases h; exact ⟨List.mem_filter.mpr ⟨List.mem_of_getElem? mj_yk49, rfl⟩, by decide⟩
  | 50, h => cases h; exact ⟨List.mem_filter.mpr ⟨List.mem_of_getElem? mj_yk50, rfl⟩, by decide⟩
  | 51, h => cases h; exact ⟨List.mem_filter.mpr ⟨List.mem_of_getElem? mj_yk51, rfl⟩, by decide⟩
  | 52, h => cases h; exact ⟨List.mem_filter.mpr ⟨List.mem_of_getElem? mj_yk52, rfl⟩, by decide⟩
  | 53, h => cases h; exact ⟨List.mem_filter.mpr ⟨List.mem_of_getElem? mj_yk53, rfl⟩, by decide⟩
  | 54, h => cases h; exact ⟨List.mem_filter.mpr ⟨List.mem_of_getElem? mj_yk54, rfl⟩, by decide⟩
  | 55, h => cases h; exact ⟨List.mem_filter.mpr ⟨List.mem_of_getElem? mj_yk55, rfl⟩, by decide⟩
  | 56, h => cases h; exact ⟨List.mem_filter.mpr ⟨List.mem_of_getElem? mj_yk56, rfl⟩, by decide⟩
  | 57, h => cases h; exact ⟨List.mem_filter.mpr ⟨List.mem_of_getElem? mj_yk57, rfl⟩, by decide⟩
  | 58, h => cases h; exact ⟨List.mem_filter.mpr ⟨List.mem_of_getElem? mj_yk58, rfl⟩, by decide⟩
  | 59, h => cases h; exact ⟨List.mem_filter.mpr ⟨List.mem_of_getElem? mj_yk59, rfl⟩, by decide⟩
  | 60, h => cases h; exact ⟨List.mem_filter.mpr ⟨List.mem_of_getElem? mj_yk60, rfl⟩, by decide⟩
  | 61, h => cases h; exact ⟨List.mem_filter.mpr ⟨List.mem_of_getElem? mj_yk61, rfl⟩, by decide⟩
  | 62, h => cases h; exact ⟨List.mem_filter.mpr ⟨List.mem_of_getElem? mj_yk62, rfl⟩, by decide⟩
  | 63, h => cases h; exact ⟨List.mem_filter.mpr ⟨List.mem_of_getElem? mj_yk63, rfl⟩, by decide⟩
  | 64, h => cases h; exact ⟨List.mem_filter.mpr ⟨List.mem_of_getElem? mj_yk64, rfl⟩, by decide⟩
  | 65, h => cases h; exact ⟨List.mem_filter.mpr ⟨List.mem_of_getElem? mj_yk65, rfl⟩, by decide⟩
  | 66, h => cases h; exact ⟨List.mem_filter.mpr ⟨List.mem_of_getElem? mj_yk66, rfl⟩, by decide⟩
  | 67, h => cases h; exact ⟨List.mem_filter.mpr ⟨List.mem_of_getElem? mj_yk67, rfl⟩, by decide⟩
  | 68, h => cases h; exact ⟨List.mem_filter.mpr ⟨List.mem_of_getElem? mj_yk68, rfl⟩, by decide⟩
  | 69, h => cases h; exact ⟨List.mem_filter.mpr ⟨List.mem_of_getElem? mj_yk69, rfl⟩, by decide⟩
  | 70, h => cases h; exact ⟨List.mem_filter.mpr ⟨List.mem_of_getElem? mj_yk70, rfl⟩, by decide⟩
  | 71, h => cases h; exact ⟨List.mem_filter.mpr ⟨List.mem_of_getElem? mj_yk71, rfl⟩, by decide⟩
  | 72, h => cases h; exact ⟨List.mem_filter.mpr ⟨List.mem_of_getElem? mj_yk72, rfl⟩, by decide⟩
  | 73, h => cases h; exact ⟨List.mem_filter.mpr ⟨List.mem_of_getElem? mj_yk73, rfl⟩, by decide⟩
  | 74, h => cases h; exact ⟨List.mem_filter.mpr ⟨List.mem_of_getElem? mj_yk74, rfl⟩, by decide⟩
  | 75, h => cases h; exact ⟨List.mem_filter.mpr ⟨List.mem_of_getElem? mj_yk75, rfl⟩, by decide⟩
  | 76, h => cases h; exact ⟨List.mem_filter.mpr ⟨List.mem_of_getElem? mj_yk76, rfl⟩, by decide⟩
  | 77, h => cases h; exact ⟨List.mem_filter.mpr ⟨List.mem_of_getElem? mj_yk77, rfl⟩, by decide⟩
  | 78, h => cases h; exact ⟨List.mem_filter.mpr ⟨List.mem_of_getElem? mj_yk78, rfl⟩, by decide⟩
  | 79, h => cases h; exact ⟨List.mem_filter.mpr ⟨List.mem_of_getElem? mj_yk79, rfl⟩, by decide⟩
  | 80, h => cases h; exact ⟨List.mem_filter.mpr ⟨List.mem_of_getElem? mj_yk80, rfl⟩, by decide⟩
  | 81, h => cases h; exact ⟨List.mem_filter.mpr ⟨List.mem_of_getElem? mj_yk81, rfl⟩, by decide⟩
  | 82, h => cases h; exact ⟨List.mem_filter.mpr ⟨List.mem_of_getElem? mj_yk82, rfl⟩, by decide⟩
  | 83, h => cases h; exact ⟨List.mem_filter.mpr ⟨List.mem_of_getElem? mj_yk83, rfl⟩, by decide⟩
  | 84, h => cases h; exact ⟨List.mem_filter.mpr ⟨List.mem_of_getElem? mj_yk84, rfl⟩, by decide⟩
  | 85, h => cases h; exact ⟨List.mem_filter.mpr ⟨List.mem_of_getElem? mj_yk85, rfl⟩, by decide⟩
  | 86, h => cases h; exact ⟨List.mem_filter.mpr ⟨List.mem_of_getElem? mj_yk86, rfl⟩, by decide⟩
  | 87, h => cases h; exact ⟨List.mem_filter.mpr ⟨List.mem_of_getElem? mj_yk87, rfl⟩, by decide⟩
  | 88, h => cases h; exact ⟨List.mem_filter.mpr ⟨List.mem_of_getElem? mj_yk88, rfl⟩, by decide⟩
  | 89, h => cases h; exact ⟨List.mem_filter.mpr ⟨List.mem_of_getElem? mj_yk89, rfl⟩, by decide⟩
  | 90, h => cases h; exact ⟨List.mem_filter.mpr ⟨List.mem_of_getElem? mj_yk90, rfl⟩, by decide⟩
  | 91, h => cases h; exact ⟨List.mem_filter.mpr ⟨List.mem_of_getElem? mj_yk91, rfl⟩, by decide⟩
  | 92, h => cases h; exact ⟨List.mem_filter.mpr ⟨List.mem_of_getElem? mj_yk92, rfl⟩, by decide⟩
  | 93, h => cases h; exact ⟨List.mem_filter.mpr ⟨List.mem_of_getElem? mj_yk93, rfl⟩, by decide⟩
  | 94, h => cases h; exact ⟨List.mem_filter.mpr ⟨List.mem_of_getElem? mj_yk94, rfl⟩, by decide⟩
  | 95, h => cases h; exact ⟨List.mem_filter.mpr ⟨List.mem_of_getElem? mj_yk95, rfl⟩, by decide⟩
  | 96, h => cases h; exact ⟨List.mem_filter.mpr ⟨List.mem_of_getElem? mj_yk96, rfl⟩, by decide⟩
  | 97, h => cases h; exact ⟨List.mem_filter.mpr ⟨List.mem_of_getElem? mj_yk97, rfl⟩, by decide⟩
  | 98, h => cases h; exact ⟨List.mem_filter.mpr ⟨List.mem_of_getElem? mj_yk98, rfl⟩, by decide⟩
  | 99, h => cases h; exact ⟨List.mem_filter.mpr ⟨List.mem_of_getElem? mj_yk99, rfl⟩, by decide⟩
  | 100, h => cases h; exact ⟨List.mem_filter.mpr ⟨List.mem_of_getElem? mj_yk100, rfl⟩, by decide⟩
  | 101, h => cases h; exact ⟨List.mem_filter.mpr ⟨List.mem_of_getElem? mj_yk101, rfl⟩, by decide⟩
  | 102, h => cases h; exact ⟨List.mem_filter.mpr ⟨List.mem_of_getElem? mj_yk102, rfl⟩, by decide⟩
  | 103, h => cases h; exact ⟨List.mem_filter.mpr ⟨List.mem_of_getElem? mj_yk103, rfl⟩, by decide⟩
  | 104, h => cases h; exact ⟨List.mem_filter.mpr ⟨List.mem_of_getElem? mj_yk104, rfl⟩, by decide⟩
  | 105, h => cases h; exact ⟨List.mem_filter.mpr ⟨List.mem_of_getElem? mj_yk105, rfl⟩, by decide⟩
  | 106, h => cases h; exact ⟨List.mem_filter.mpr ⟨List.mem_of_getElem? mj_yk106, rfl⟩, by decide⟩
  | 107, h => cases h; exact ⟨List.mem_filter.mpr ⟨List.mem_of_getElem? mj_yk107, rfl⟩, by decide⟩
  | 108, h => cases h; exact ⟨List.mem_filter.mpr ⟨List.mem_of_getElem? mj_yk108, rfl⟩, by decide⟩
  | 109, h => cases h; exact ⟨List.mem_filter.mpr ⟨List.mem_of_getElem? mj_yk109, rfl⟩, by decide⟩
  | 110, h => cases h; exact ⟨List.mem_filter.mpr ⟨List.mem_of_getElem? mj_yk110, rfl⟩, by decide⟩
  | 111, h => cases h; exact ⟨List.mem_filter.mpr ⟨List.mem_of_getElem? mj_yk111, rfl⟩, by decide⟩
  | 112, h => cases h; exact ⟨List.mem_filter.mpr ⟨List.mem_of_getElem? mj_yk112, rfl⟩, by decide⟩
  | 113, h => cases h; exact ⟨List.mem_filter.mpr ⟨List.mem_of_getElem? mj_yk113, rfl⟩, by decide⟩
  | 114, h => cases h; exact ⟨List.mem_filter.mpr ⟨List.mem_of_getElem? mj_yk114, rfl⟩, by decide⟩
  | 115, h => cases h; exact ⟨List.mem_filter.mpr ⟨List.mem_of_getElem? mj_yk115, rfl⟩, by decide⟩
  | 116, h => cases h; exact ⟨List.mem_filter.mpr ⟨List.mem_of_getElem? mj_yk116, rfl⟩, by decide⟩
  | 117, h => cases h; exact ⟨List.mem_filter.mpr ⟨List.mem_of_getElem? mj_yk117, rfl⟩, by decide⟩
  | 118, h => cases h; exact ⟨List.mem_filter.mpr ⟨List.mem_of_getElem? mj_yk118, rfl⟩, by decide⟩
  | 119, h => cases h; exact ⟨List.mem_filter.mpr ⟨List.mem_of_getElem? mj_yk119, rfl⟩, by decide⟩
  | 120, h => cases h; exact ⟨List.mem_filter.mpr ⟨List.mem_of_getElem? mj_yk120, rfl⟩, by decide⟩
  | 121, h => cases h; exact ⟨List.mem_filter.mpr ⟨List.mem_of_getElem? mj_yk121, rfl⟩, by decide⟩
  | 122, h => cases h; exact ⟨List.mem_filter.mpr ⟨List.mem_of_getElem? mj_yk122, rfl⟩, by decide⟩
  | 123, h => cases h; exact ⟨List.mem_filter.mpr ⟨List.mem_of_getElem? mj_yk123, rfl⟩, by decide⟩
  | 124, h => cases h; exact ⟨List.mem_filter.mpr ⟨List.mem_of_getElem? mj_yk124, rfl⟩, by decide⟩
  | 125, h => cases h; exact ⟨List.mem_filter.mpr ⟨List.mem_of_getElem? mj_yk125, rfl⟩, by decide⟩
  | 126, h => cases h; exact ⟨List.mem_filter.mpr ⟨List.mem_of_getElem? mj_yk126, rfl⟩, by decide⟩
  | 127, h => cases h; exact ⟨List.mem_filter.mpr ⟨List.mem_of_getElem? mj_yk127, rfl⟩, by decide⟩
  | 128, h => cases h; exact ⟨List.mem_filter.mpr ⟨List.mem_of_getElem? mj_yk128, rfl⟩, by decide⟩
  | 129, h => cases h; exact ⟨List.mem_filter.mpr ⟨List.mem_of_getElem? mj_yk129, rfl⟩, by decide⟩
  | 130, h => cases h; exact ⟨List.mem_filter.mpr ⟨List.mem_of_getElem? mj_yk130, rfl⟩, by decide⟩
  | 131, h => cases h; exact ⟨List.mem_filter.mpr ⟨List.mem_of_getElem? mj_yk131, rfl⟩, by decide⟩
  | 132, h => cases h; exact ⟨List.mem_filter.mpr ⟨List.mem_of_getElem? mj_yk132, rfl⟩, by decide⟩
  | 133, h => cases h; exact ⟨List.mem_filter.mpr ⟨List.mem_of_getElem? mj_yk133, rfl⟩, by decide⟩
  | 134, h => cases h; exact ⟨List.mem_filter.mpr ⟨List.mem_of_getElem? mj_yk134, rfl⟩, by decide⟩
  | 135, h => cases h; exact ⟨List.mem_filter.mpr ⟨List.mem_of_getElem? mj_yk135, rfl⟩, by decide⟩
  | 136, h => cases h; exact ⟨List.mem_filter.mpr ⟨List.mem_of_getElem? mj_yk136, rfl⟩, by decide⟩
  | 137, h => cases h; exact ⟨List.mem_filter.mpr ⟨List.mem_of_getElem? mj_yk137, rfl⟩, by decide⟩
  | 138, h => cases h; exact ⟨List.mem_filter.mpr ⟨List.mem_of_getElem? mj_yk138, rfl⟩, by decide⟩
  | 139, h => cases h; exact ⟨List.mem_filter.mpr ⟨List.mem_of_getElem? mj_yk139, rfl⟩, by decide⟩
  | 140, h => cases h; exact ⟨List.mem_filter.mpr ⟨List.mem_of_getElem? mj_yk140, rfl⟩, by decide⟩
  | 141, h => cases h; exact ⟨List.mem_filter.mpr ⟨List.mem_of_getElem? mj_yk141, rfl⟩, by decide⟩
  | 142, h => cases h; exact ⟨List.mem_filter.mpr ⟨List.mem_of_getElem? mj_yk142, rfl⟩, by decide⟩
  | 143, h => cases h; exact ⟨List.mem_filter.mpr ⟨List.mem_of_getElem? mj_yk143, rfl⟩, by decide⟩
  | 144, h => cases h; exact ⟨List.mem_filter.mpr ⟨List.mem_of_getElem? mj_yk144, rfl⟩, by decide⟩
  | 145, h => cases h; exact ⟨List.mem_filter.mpr ⟨List.mem_of_getElem? mj_yk145, rfl⟩, by decide⟩
  | 146, h => cases h; exact ⟨List.mem_filter.mpr ⟨List.mem_of_getElem? mj_yk146, rfl⟩, by decide⟩
  | 147, h => cases h; exact ⟨List.mem_filter.mpr ⟨List.mem_of_getElem? mj_yk147, rfl⟩, by decide⟩
  | 148, h => cases h; exact ⟨List.mem_filter.mpr ⟨List.mem_of_getElem? mj_yk148, rfl⟩, by decide⟩
  | 149, h => cases h; exact ⟨List.mem_filter.mpr ⟨List.mem_of_getElem? mj_yk149, rfl⟩, by decide⟩
  | 150, h => cases h; exact ⟨List.mem_filter.mpr ⟨List.mem_of_getElem? mj_yk150, rfl⟩, by decide⟩
  | 151, h => cases h; exact ⟨List.mem_filter.mpr ⟨List.mem_of_getElem? mj_yk151, rfl⟩, by decide⟩
  | 152, h => cases h; exact ⟨List.mem_filter.mpr ⟨List.mem_of_getElem? mj_yk152, rfl⟩, by decide⟩
  | 153, h => cases h; exact ⟨List.mem_filter.mpr ⟨List.mem_of_getElem? mj_yk153, rfl⟩, by decide⟩
  | 154, h => cases h; exact ⟨List.mem_filter.mpr ⟨List.mem_of_getElem? mj_yk154, rfl⟩, by decide⟩
  | 155, h => cases h; exact ⟨List.mem_filter.mpr ⟨List.mem_of_getElem? mj_yk155, rfl⟩, by decide⟩
  | 156, h => cases h; exact ⟨List.mem_filter.mpr ⟨List.mem_of_getElem? mj_yk156, rfl⟩, by decide⟩
  | 157, h => cases h; exact ⟨List.mem_filter.mpr ⟨List.mem_of_getElem? mj_yk157, rfl⟩, by decide⟩
  | 158, h => cases h; exact ⟨List.mem_filter.mpr ⟨List.mem_of_getElem? mj_yk158, rfl⟩, by decide⟩
  | 159, h => cases h; exact ⟨List.mem_filter.mpr ⟨List.mem_of_getElem? mj_yk159, rfl⟩, by decide⟩
  | 160, h => cases h; exact ⟨List.mem_filter.mpr ⟨List.mem_of_getElem? mj_yk160, rfl⟩, by decide⟩
  | 161, h => cases h; exact ⟨List.mem_filter.mpr ⟨List.mem_of_getElem? mj_yk161, rfl⟩, by decide⟩
  | 162, h => cases h; exact ⟨List.mem_filter.mpr ⟨List.mem_of_getElem? mj_yk162, rfl⟩, by decide⟩
  | 163, h => cases h; exact ⟨List.mem_filter.mpr ⟨List.mem_of_getElem? mj_yk163, rfl⟩, by decide⟩
  | 164, h => cases h; exact ⟨List.mem_filter.mpr ⟨List.mem_of_getElem? mj_yk164, rfl⟩, by decide⟩
  | 165, h => cases h; exact ⟨List.mem_filter.mpr ⟨List.mem_of_getElem? mj_yk165, rfl⟩, by decide⟩
  | 166, h => cases h; exact ⟨List.mem_filter.mpr ⟨List.mem_of_getElem? mj_yk166, rfl⟩, by decide⟩
  | 167, h => cases h; exact ⟨List.mem_filter.mpr ⟨List.mem_of_getElem? mj_yk167, rfl⟩, by decide⟩
  | 168, h => cases h; exact ⟨List.mem_filter.mpr ⟨List.mem_of_getElem? mj_yk168, rfl⟩, by decide⟩
  | 169, h => cases h; exact ⟨List.mem_filter.mpr ⟨List.mem_of_getElem? mj_yk169, rfl⟩, by decide⟩
  | 170, h => cases h; exact ⟨List.mem_filter.mpr ⟨List.mem_of_getElem? mj_yk170, rfl⟩, by decide⟩
  | 171, h => cases h; exact ⟨List.mem_filter.mpr ⟨List.mem_of_getElem? mj_yk171, rfl⟩, by decide⟩
  | 172, h => cases h; exact ⟨List.mem_filter.mpr ⟨List.mem_of_getElem? mj_yk172, rfl⟩, by decide⟩
  | 173, h => cases h; exact ⟨List.mem_filter.mpr ⟨List.mem_of_getElem? mj_yk173, rfl⟩, by decide⟩
  | 174, h => cases h; exact ⟨List.mem_filter.mpr ⟨List.mem_of_getElem? mj_yk174, rfl⟩, by decide⟩
  | 175, h => cases h; exact ⟨List.mem_filter.mpr ⟨List.mem_of_getElem? mj_yk175, rfl⟩, by decide⟩
  | 176, h => cases h; exact ⟨List.mem_filter.mpr ⟨List.mem_of_getElem? mj_yk176, rfl⟩, by decide⟩
  | 177, h => cases h; exact ⟨List.mem_filter.mpr ⟨List.mem_of_getElem? mj_yk177, rfl⟩, by decide⟩
  | 178, h => cases h; exact ⟨List.mem_filter.mpr ⟨List.mem_of_getElem? mj_yk178, rfl⟩, by decide⟩
  | 179, h => cases h; exact ⟨List.mem_filter.mpr ⟨List.mem_of_getElem? mj_yk179, rfl⟩, by decide⟩
  | 180, h => cases h; exact ⟨List.mem_filter.mpr ⟨List.mem_of_getElem? mj_yk180, rfl⟩, by decide⟩
  | 181, h => cases h; exact ⟨List.mem_filter.mpr ⟨List.mem_of_getElem? mj_yk181, rfl⟩, by decide⟩
  | 182, h => cases h; exact ⟨List.mem_filter.mpr ⟨List.mem_of_getElem? mj_yk182, rfl⟩, by decide⟩
  | 183, h => cases h; exact ⟨List.mem_filter.mpr ⟨List.mem_of_getElem? mj_yk183, rfl⟩, by decide⟩
  | 184, h => cases h; exact ⟨List.mem_filter.mpr ⟨List.mem_of_getElem? mj_yk184, rfl⟩, by decide⟩
  | 185, h => cases h; exact ⟨List.mem_filter.mpr ⟨List.mem_of_getElem? mj_yk185, rfl⟩, by decide⟩
  | 186, h => cases h; exact ⟨List.mem_filter.mpr ⟨List.mem_of_getElem? mj_yk186, rfl⟩, by decide⟩
  | 187, h => cases h; exact ⟨List.mem_filter.mpr ⟨List.mem_of_getElem? mj_yk187, rfl⟩, by decide⟩
  | 188, h => cases h; exact ⟨List.mem_filter.mpr ⟨List.mem_of_getElem? mj_yk188, rfl⟩, by decide⟩
  | 189, h => cases h; exact ⟨List.mem_filter.mpr ⟨List.mem_of_getElem? mj_yk189, rfl⟩, by decide⟩
  | 190, h => cases h; exact ⟨List.mem_filter.mpr ⟨List.mem_of_getElem? mj_yk190, rfl⟩, by decide⟩
  | 191, h => cases h; exact ⟨List.mem_filter.mpr ⟨List.mem_of_getElem? mj_yk191, rfl⟩, by decide⟩
  | 192, h => cases h; exact absurd rfl hn
  | n + 193, h => simp [mj_Y] at h
