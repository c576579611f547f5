theorem mf_X10_ageIn : kMS yX10_ageIn cX10_ageIn 1 (some .int) 1 := ⟨q552, q51, q551, ⟨by decide +kernel, by decide +kernel⟩, by decide +kernel⟩
theorem mf_X10_back : kMV yX10_back RX10 cX10_back 1 (some .int) 0 := ⟨q833, q51, q831, q832, ⟨by decide +kernel, by decide +kernel⟩, by decide +kernel⟩
theorem mf_X10_bars : kMV yX10_bars RX10 cX10_bars 1 (some .int) 0 := ⟨q707, q51, q705, q706, ⟨by decide +kernel, by decide +kernel⟩, by decide +kernel⟩
theorem mf_X10_calf : kMV yX10_calf RX10 cX10_calf 4 (some .int) 2 := ⟨q572, q51, q570, q571, ⟨by decide +kernel, by decide +kernel⟩, by decide +kernel⟩
theorem mf_X10_chance : kMV yX10_chance RX10 cX10_chance 10 (some .long) 3 := ⟨q802, q51, q800, q801, ⟨by decide +kernel, by decide +kernel⟩, by decide +kernel⟩
theorem mf_X10_commonDivisor : kMS yX10_commonDivisor cX10_commonDivisor 11 (some .long) 2 := ⟨q811, q51, q810, ⟨by decide +kernel, by decide +kernel⟩, by decide +kernel⟩
theorem mf_X10_count : kMV yX10_count RX10 cX10_count 2 (some .int) 1 := ⟨q837, q51, q835, q836, ⟨by decide +kernel, by decide +kernel⟩, by decide +kernel⟩
theorem mf_X10_drawnFeeder : kMS yX10_drawnFeeder cX10_drawnFeeder 7 (some .int) 3 := ⟨q819, q51, q818, ⟨by decide +kernel, by decide +kernel⟩, by decide +kernel⟩
theorem mf_X10_far : kMV yX10_far RX10 cX10_far 4 (some .int) 2 := ⟨q491, q51, q489, q490, ⟨by decide +kernel, by decide +kernel⟩, by decide +kernel⟩
theorem mf_X10_fault : kMV yX10_fault RX10 cX10_fault 1 (some .int) 0 := ⟨q467, q51, q465, q466, ⟨by decide +kernel, by decide +kernel⟩, by decide +kernel⟩
theorem mf_X10_fedState : kMS yX10_fedState cX10_fedState 2 (some .int) 2 := ⟨q532, q51, q531, ⟨by decide +kernel, by decide +kernel⟩, by decide +kernel⟩
theorem mf_X10_feed : kMV yX10_feed RX10 cX10_feed 2 (some .int) 1 := ⟨q513, q51, q511, q512, ⟨by decide +kernel, by decide +kernel⟩, by decide +kernel⟩
theorem mf_X10_first : kMV yX10_first RX10 cX10_first 1 (some .int) 0 := ⟨q699, q51, q697, q698, ⟨by decide +kernel, by decide +kernel⟩, by decide +kernel⟩
theorem mf_X10_followedIn : kMS yX10_followedIn cX10_followedIn 1 (some .int) 1 := ⟨q549, q51, q548, ⟨by decide +kernel, by decide +kernel⟩, by decide +kernel⟩
theorem mf_X10_forget : kMV yX10_forget RX10 cX10_forget 1 (some .int) 0 := ⟨q781, q51, q779, q780, ⟨by decide +kernel, by decide +kernel⟩, by decide +kernel⟩
theorem mf_X10_game : kMV yX10_game RX10 cX10_game 6 (some .int) 4 := ⟨q711, q51, q709, q710, ⟨by decide +kernel, by decide +kernel⟩, by decide +kernel⟩
theorem mf_X10_goal : kMV yX10_goal RX10 cX10_goal 3 (some .int) 2 := ⟨q583, q51, q581, q582, ⟨by decide +kernel, by decide +kernel⟩, by decide +kernel⟩
theorem mf_X10_how : kMV yX10_how RX10 cX10_how 1 (some .long) 0 := ⟨q785, q51, q783, q784, ⟨by decide +kernel, by decide +kernel⟩, by decide +kernel⟩
theorem mf_X10_isFlag : kMS yX10_isFlag cX10_isFlag 1 (some .boolean) 1 := ⟨q575, q51, q574, ⟨by decide +kernel, by decide +kernel⟩, by decide +kernel⟩
theorem mf_X10_keep : kMV yX10_keep RX10 cX10_keep 1 (some .int) 0 := ⟨q829, q51, q827, q828, ⟨by decide +kernel, by decide +kernel⟩, by decide +kernel⟩
theorem mf_X10_lay : kMV yX10_lay RX10 cX10_lay 2 (some .int) 0 := ⟨q471, q51, q469, q470, ⟨by decide +kernel, by decide +kernel⟩, by decide +kernel⟩
theorem mf_X10_noGoals : kMV yX10_noGoals RX10 cX10_noGoals 1 (some .int) 0 := ⟨q591, q51, q589, q590, ⟨by decide +kernel, by decide +kernel⟩, by decide +kernel⟩
theorem mf_X10_orNone : kMS yX10_orNone cX10_orNone 1 (some .int) 1 := ⟨q579, q51, q578, ⟨by decide +kernel, by decide +kernel⟩, by decide +kernel⟩
theorem mf_X10_packed : kMS yX10_packed cX10_packed 3 (some .int) 3 := ⟨q420, q51, q419, ⟨by decide +kernel, by decide +kernel⟩, by decide +kernel⟩
theorem mf_X10_pass : kMV yX10_pass RX10 cX10_pass 2 (some .int) 1 := ⟨q538, q51, q536, q537, ⟨by decide +kernel, by decide +kernel⟩, by decide +kernel⟩
theorem mf_X10_person : kMV yX10_person RX10 cX10_person 3 (some .int) 2 := ⟨q497, q51, q495, q496, ⟨by decide +kernel, by decide +kernel⟩, by decide +kernel⟩
theorem mf_X10_price : kMV yX10_price RX10 cX10_price 1 (some .int) 0 := ⟨q595, q51, q593, q594, ⟨by decide +kernel, by decide +kernel⟩, by decide +kernel⟩
theorem mf_X10_seen : kMV yX10_seen RX10 cX10_seen 3 (some .int) 2 := ⟨q777, q51, q775, q776, ⟨by decide +kernel, by decide +kernel⟩, by decide +kernel⟩
theorem mf_X10_sure : kMV yX10_sure RX10 cX10_sure 3 (some .int) 1 := ⟨q798, q51, q796, q797, ⟨by decide +kernel, by decide +kernel⟩, by decide +kernel⟩
theorem mf_X10_undo : kMV yX10_undo RX10 cX10_undo 1 (some .int) 0 := ⟨q560, q51, q558, q559, ⟨by decide +kernel, by decide +kernel⟩, by decide +kernel⟩
theorem mf_X10_wipe : kMV yX10_wipe RX10 cX10_wipe 2 (some .int) 0 := ⟨q463, q51, q461, q462, ⟨by decide +kernel, by decide +kernel⟩, by decide +kernel⟩
theorem mf_X10_write : kMV yX10_write RX10 cX10_write 5 (some .int) 2 := ⟨q458, q51, q456, q457, ⟨by decide +kernel, by decide +kernel⟩, by decide +kernel⟩
theorem mf_X10_yardOf : kMS yX10_yardOf cX10_yardOf 1 (some .int) 1 := ⟨q521, q51, q520, ⟨by decide +kernel, by decide +kernel⟩, by decide +kernel⟩
theorem mf_X10_year : kMV yX10_year RX10 cX10_year 8 (some .int) 3 := ⟨q815, q51, q813, q814, ⟨by decide +kernel, by decide +kernel⟩, by decide +kernel⟩
theorem mf_X0_addNext : kMV yX0_addNext RX0 cX0_addNext 7 none 5 := ⟨q752, q61, q751, q17, ⟨by decide +kernel, by decide +kernel⟩, by decide +kernel⟩
theorem mf_X0_choice : kMV yX0_choice RX0 cX0_choice 8 (some .int) 6 := ⟨q773, q61, q772, q20, ⟨by decide +kernel, by decide +kernel⟩, by decide +kernel⟩
theorem mf_X0_goBack : kMV yX0_goBack RX0 cX0_goBack 8 none 4 := ⟨q769, q61, q768, q19, ⟨by decide +kernel, by decide +kernel⟩, by decide +kernel⟩
theorem mf_X0_goForth : kMV yX0_goForth RX0 cX0_goForth 6 none 4 := ⟨q739, q61, q738, q16, ⟨by decide +kernel, by decide +kernel⟩, by decide +kernel⟩
theorem mf_X0_leaveThoseAt : kMV yX0_leaveThoseAt RX0 cX0_leaveThoseAt 5 none 3 := ⟨q760, q61, q759, q18, ⟨by decide +kernel, by decide +kernel⟩, by decide +kernel⟩
theorem mf_X0_moversIn : kMS yX0_moversIn cX0_moversIn 3 (some .int) 3 := ⟨q734, q61, q733, ⟨by decide +kernel, by decide +kernel⟩, by decide +kernel⟩
theorem mf_X0_opening : kMV yX0_opening RX0 cX0_opening 7 (some .int) 5 := ⟨q719, q61, q717, q718, ⟨by decide +kernel, by decide +kernel⟩, by decide +kernel⟩
theorem mf_X1_addToWay : kMV yX1_addToWay RX1 cX1_addToWay 3 none 1 := ⟨q377, q54, q375, q376, ⟨by decide +kernel, by decide +kernel⟩, by decide +kernel⟩
theorem mf_X1_beginWay : kMV yX1_beginWay RX1 cX1_beginWay 1 (some .boolean) 0 := ⟨q373, q54, q371, q372, ⟨by decide +kernel, by decide +kernel⟩, by decide +kernel⟩
theorem mf_X1_canBeLaid : kMV yX1_canBeLaid RX1 cX1_canBeLaid 3 (some .boolean) 0 := ⟨q475, q54, q473, q474, ⟨by decide +kernel, by decide +kernel⟩, by decide +kernel⟩
theorem mf_X1_canFeed : kMV yX1_canFeed RX1 cX1_canFeed 4 (some .boolean) 3 := ⟨q517, q54, q515, q516, ⟨by decide +kernel, by decide +kernel⟩, by decide +kernel⟩
theorem mf_X1_clear : kMV yX1_clear RX1 cX1_clear 2 none 0 := ⟨q326, q54, q324, q325, ⟨by decide +kernel, by decide +kernel⟩, by decide +kernel⟩
theorem mf_X1_cost : kMV yX1_cost RX1 cX1_cost 2 (some .int) 1 := ⟨q505, q54, q503, q504, ⟨by decide +kernel, by decide +kernel⟩, by decide +kernel⟩
theorem mf_X1_distance : kMV yX1_distance RX1 cX1_distance 3 (some .int) 2 := ⟨q401, q54, q399, q400, ⟨by decide +kernel, by decide +kernel⟩, by decide +kernel⟩
theorem mf_X1_everybody : kMV yX1_everybody RX1 cX1_everybody 1 (some .int) 0 := ⟨q715, q54, q713, q714, ⟨by decide +kernel, by decide +kernel⟩, by decide +kernel⟩
theorem mf_X1_feedersAt : kMV yX1_feedersAt RX1 cX1_feedersAt 5 (some .int) 2 := ⟨q671, q54, q669, q670, ⟨by decide +kernel, by decide +kernel⟩, by decide +kernel⟩
theorem mf_X1_firstState : kMV yX1_firstState RX1 cX1_firstState 1 (some .int) 0 := ⟨q417, q54, q415, q416, ⟨by decide +kernel, by decide +kernel⟩, by decide +kernel⟩
theorem mf_X1_hasPerson : kMV yX1_hasPerson RX1 cX1_hasPerson 2 (some .boolean) 1 := ⟨q501, q54, q499, q500, ⟨by decide +kernel, by decide +kernel⟩, by decide +kernel⟩
theorem mf_X1_hasYard : kMV yX1_hasYard RX1 cX1_hasYard 2 (some .boolean) 1 := ⟨q365, q54, q363, q364, ⟨by decide +kernel, by decide +kernel⟩, by decide +kernel⟩
theorem mf_X1_lowestNearer : kMV yX1_lowestNearer RX1 cX1_lowestNearer 5 (some .int) 2 := ⟨q405, q54, q404, q6, ⟨by decide +kernel, by decide +kernel⟩, by decide +kernel⟩
theorem mf_X1_measure : kMV yX1_measure RX1 cX1_measure 5 none 0 := ⟨q397, q54, q395, q396, ⟨by decide +kernel, by decide +kernel⟩, by decide +kernel⟩
theorem mf_X1_onward : kMV yX1_onward RX1 cX1_onward 6 (some .int) 2 := ⟨q546, q54, q544, q545, ⟨by decide +kernel, by decide +kernel⟩, by decide +kernel⟩
theorem mf_X1_persons : kMV yX1_persons RX1 cX1_persons 1 (some .int) 0 := ⟨q487, q54, q485, q486, ⟨by decide +kernel, by decide +kernel⟩, by decide +kernel⟩
theorem mf_X1_states : kMV yX1_states RX1 cX1_states 1 (some .int) 0 := ⟨q743, q54, q741, q742, ⟨by decide +kernel, by decide +kernel⟩, by decide +kernel⟩
theorem mf_X1_tellForgetting : kMV yX1_tellForgetting RX1 cX1_tellForgetting 2 (some .boolean) 1 := ⟨q389, q54, q387, q388, ⟨by decide +kernel, by decide +kernel⟩, by decide +kernel⟩
theorem mf_X1_tellLane : kMV yX1_tellLane RX1 cX1_tellLane 3 (some .boolean) 2 := ⟨q361, q54, q359, q360, ⟨by decide +kernel, by decide +kernel⟩, by decide +kernel⟩
theorem mf_X1_tellPerson : kMV yX1_tellPerson RX1 cX1_tellPerson 2 (some .boolean) 1 := ⟨q385, q54, q383, q384, ⟨by decide +kernel, by decide +kernel⟩, by decide +kernel⟩
theorem mf_X1_tellStart : kMV yX1_tellStart RX1 cX1_tellStart 2 (some .boolean) 1 := ⟨q393, q54, q391, q392, ⟨by decide +kernel, by decide +kernel⟩, by decide +kernel⟩
theorem mf_X1_tellYards : kMV yX1_tellYards RX1 cX1_tellYards 2 (some .boolean) 1 := ⟨q381, q54, q379, q380, ⟨by decide +kernel, by decide +kernel⟩, by decide +kernel⟩
theorem mf_X1_towards : kMV yX1_towards RX1 cX1_towards 3 (some .int) 2 := ⟨q556, q54, q555, q8, ⟨by decide +kernel, by decide +kernel⟩, by decide +kernel⟩
theorem mf_X1_unfed : kMV yX1_unfed RX1 cX1_unfed 6 (some .int) 3 := ⟨q542, q54, q540, q541, ⟨by decide +kernel, by decide +kernel⟩, by decide +kernel⟩
theorem mf_X1_yardAt : kMV yX1_yardAt RX1 cX1_yardAt 4 (some .int) 2 := ⟨q509, q54, q507, q508, ⟨by decide +kernel, by decide +kernel⟩, by decide +kernel⟩
theorem mf_X1_yards : kMV yX1_yards RX1 cX1_yards 1 (some .int) 0 := ⟨q841, q54, q839, q840, ⟨by decide +kernel, by decide +kernel⟩, by decide +kernel⟩
theorem mf_X2_clear : kMV yX2_clear RX2 cX2_clear 2 none 0 := ⟨q607, q59, q605, q606, ⟨by decide +kernel, by decide +kernel⟩, by decide +kernel⟩
theorem mf_X2_keepThoseAt : kMV yX2_keepThoseAt RX2 cX2_keepThoseAt 5 none 1 := ⟨q645, q59, q643, q644, ⟨by decide +kernel, by decide +kernel⟩, by decide +kernel⟩
theorem mf_X2_least : kMV yX2_least RX2 cX2_least 4 (some .long) 0 := ⟨q694, q59, q692, q693, ⟨by decide +kernel, by decide +kernel⟩, by decide +kernel⟩
theorem mf_X2_number : kMV yX2_number RX2 cX2_number 2 (some .long) 1 := ⟨q662, q59, q660, q661, ⟨by decide +kernel, by decide +kernel⟩, by decide +kernel⟩
theorem mf_X2_put : kMV yX2_put RX2 cX2_put 5 none 3 := ⟨q611, q59, q609, q610, ⟨by decide +kernel, by decide +kernel⟩, by decide +kernel⟩
theorem mf_X2_size : kMV yX2_size RX2 cX2_size 1 (some .int) 0 := ⟨q650, q59, q648, q649, ⟨by decide +kernel, by decide +kernel⟩, by decide +kernel⟩
theorem mf_X2_state : kMV yX2_state RX2 cX2_state 2 (some .int) 1 := ⟨q658, q59, q656, q657, ⟨by decide +kernel, by decide +kernel⟩, by decide +kernel⟩
theorem mf_X2_sum : kMV yX2_sum RX2 cX2_sum 4 (some .long) 0 := ⟨q794, q59, q792, q793, ⟨by decide +kernel, by decide +kernel⟩, by decide +kernel⟩
theorem mf_X3_begin : kMV yX3_begin RX3 cX3_begin 2 none 1 := ⟨q413, q55, q411, q412, ⟨by decide +kernel, by decide +kernel⟩, by decide +kernel⟩
theorem mf_X4_clear : kMV yX4_clear RX4 cX4_clear 1 none 0 := ⟨q483, q56, q481, q482, ⟨by decide +kernel, by decide +kernel⟩, by decide +kernel⟩
theorem mf_X4_dropLowest : kMV yX4_dropLowest RX4 cX4_dropLowest 2 none 0 := ⟨q529, q56, q528, q7, ⟨by decide +kernel, by decide +kernel⟩, by decide +kernel⟩
theorem mf_X4_pop : kMV yX4_pop RX4 cX4_pop 2 none 1 := ⟨q568, q56, q566, q567, ⟨by decide +kernel, by decide +kernel⟩, by decide +kernel⟩
theorem mf_X4_push : kMV yX4_push RX4 cX4_push 2 none 1 := ⟨q525, q56, q523, q524, ⟨by decide +kernel, by decide +kernel⟩, by decide +kernel⟩
theorem mf_X4_size : kMV yX4_size RX4 cX4_size 1 (some .int) 0 := ⟨q564, q56, q562, q563, ⟨by decide +kernel, by decide +kernel⟩, by decide +kernel⟩
theorem mf_X5_figureHere : kMV yX5_figureHere RX5 cX5_figureHere 2 (some .int) 0 := ⟨q353, q53, q352, q3, ⟨by decide +kernel, by decide +kernel⟩, by decide +kernel⟩
theorem mf_X5_readInto : kMV yX5_readInto RX5 cX5_readInto 4 (some .int) 1 := ⟨q322, q53, q320, q321, ⟨by decide +kernel, by decide +kernel⟩, by decide +kernel⟩
theorem mf_X5_readItem : kMV yX5_readItem RX5 cX5_readItem 4 (some .boolean) 1 := ⟨q337, q53, q336, q0, ⟨by decide +kernel, by decide +kernel⟩, by decide +kernel⟩
theorem mf_X5_readLane : kMV yX5_readLane RX5 cX5_readLane 4 (some .boolean) 1 := ⟨q345, q53, q344, q1, ⟨by decide +kernel, by decide +kernel⟩, by decide +kernel⟩
theorem mf_X5_readNumber : kMV yX5_readNumber RX5 cX5_readNumber 3 (some .int) 0 := ⟨q349, q53, q348, q2, ⟨by decide +kernel, by decide +kernel⟩, by decide +kernel⟩
theorem mf_X5_readWay : kMV yX5_readWay RX5 cX5_readWay 5 (some .boolean) 1 := ⟨q369, q53, q368, q5, ⟨by decide +kernel, by decide +kernel⟩, by decide +kernel⟩
theorem mf_X5_takes : kMV yX5_takes RX5 cX5_takes 2 (some .boolean) 1 := ⟨q357, q53, q356, q4, ⟨by decide +kernel, by decide +kernel⟩, by decide +kernel⟩
theorem mf_X6_add : kMV yX6_add RX6 cX6_add 3 none 2 := ⟨q728, q62, q726, q727, ⟨by decide +kernel, by decide +kernel⟩, by decide +kernel⟩
theorem mf_X6_clear : kMV yX6_clear RX6 cX6_clear 1 none 0 := ⟨q723, q62, q721, q722, ⟨by decide +kernel, by decide +kernel⟩, by decide +kernel⟩
theorem mf_X6_has : kMV yX6_has RX6 cX6_has 3 (some .boolean) 2 := ⟨q748, q62, q746, q747, ⟨by decide +kernel, by decide +kernel⟩, by decide +kernel⟩
theorem mf_X6_isOne : kMS yX6_isOne cX6_isOne 2 (some .boolean) 2 := ⟨q731, q62, q730, ⟨by decide +kernel, by decide +kernel⟩, by decide +kernel⟩
theorem mf_X6_remove : kMV yX6_remove RX6 cX6_remove 3 none 2 := ⟨q765, q62, q763, q764, ⟨by decide +kernel, by decide +kernel⟩, by decide +kernel⟩
theorem mf_X7_begin : kMV yX7_begin RX7 cX7_begin 3 none 2 := ⟨q603, q58, q602, q9, ⟨by decide +kernel, by decide +kernel⟩, by decide +kernel⟩
theorem mf_X7_branch : kMV yX7_branch RX7 cX7_branch 10 none 4 := ⟨q666, q58, q665, q13, ⟨by decide +kernel, by decide +kernel⟩, by decide +kernel⟩
theorem mf_X7_cheapest : kMV yX7_cheapest RX7 cX7_cheapest 4 (some .int) 3 := ⟨q599, q58, q597, q598, ⟨by decide +kernel, by decide +kernel⟩, by decide +kernel⟩
theorem mf_X7_firstFeeder : kMV yX7_firstFeeder RX7 cX7_firstFeeder 1 (some .int) 0 := ⟨q703, q58, q701, q702, ⟨by decide +kernel, by decide +kernel⟩, by decide +kernel⟩
theorem mf_X7_follow : kMV yX7_follow RX7 cX7_follow 7 (some .int) 3 := ⟨q618, q58, q617, q10, ⟨by decide +kernel, by decide +kernel⟩, by decide +kernel⟩
theorem mf_X7_leastCost : kMV yX7_leastCost RX7 cX7_leastCost 1 (some .int) 0 := ⟨q690, q58, q688, q689, ⟨by decide +kernel, by decide +kernel⟩, by decide +kernel⟩
theorem mf_X7_sieve : kMV yX7_sieve RX7 cX7_sieve 4 (some .int) 2 := ⟨q629, q58, q628, q11, ⟨by decide +kernel, by decide +kernel⟩, by decide +kernel⟩
theorem mf_X7_spread : kMV yX7_spread RX7 cX7_spread 4 none 2 := ⟨q654, q58, q653, q12, ⟨by decide +kernel, by decide +kernel⟩, by decide +kernel⟩
theorem mf_X7_ways : kMV yX7_ways RX7 cX7_ways 4 (some .long) 3 := ⟨q789, q58, q787, q788, ⟨by decide +kernel, by decide +kernel⟩, by decide +kernel⟩
theorem mf_X7_weight : kMV yX7_weight RX7 cX7_weight 6 (some .long) 4 := ⟨q807, q58, q805, q806, ⟨by decide +kernel, by decide +kernel⟩, by decide +kernel⟩
theorem mf_X7_whenFed : kMV yX7_whenFed RX7 cX7_whenFed 6 (some .long) 4 := ⟨q685, q58, q684, q15, ⟨by decide +kernel, by decide +kernel⟩, by decide +kernel⟩
theorem mf_X7_whenUnfed : kMV yX7_whenUnfed RX7 cX7_whenUnfed 4 (some .long) 2 := ⟨q676, q58, q675, q14, ⟨by decide +kernel, by decide +kernel⟩, by decide +kernel⟩
theorem mf_X8_append : kMV yX8_append RX8 cX8_append 2 none 1 := ⟨q318, q52, q316, q317, ⟨by decide +kernel, by decide +kernel⟩, by decide +kernel⟩
theorem mf_X8_byteAt : kMV yX8_byteAt RX8 cX8_byteAt 2 (some .int) 1 := ⟨q341, q52, q339, q340, ⟨by decide +kernel, by decide +kernel⟩, by decide +kernel⟩
theorem mf_X8_clear : kMV yX8_clear RX8 cX8_clear 1 none 0 := ⟨q409, q52, q407, q408, ⟨by decide +kernel, by decide +kernel⟩, by decide +kernel⟩
theorem mf_X8_length : kMV yX8_length RX8 cX8_length 1 (some .int) 0 := ⟨q333, q52, q331, q332, ⟨by decide +kernel, by decide +kernel⟩, by decide +kernel⟩
theorem mf_X9_add : kMV yX9_add RX9 cX9_add 3 (some .int) 2 := ⟨q587, q57, q585, q586, ⟨by decide +kernel, by decide +kernel⟩, by decide +kernel⟩
theorem mf_X9_clear : kMV yX9_clear RX9 cX9_clear 2 (some .int) 0 := ⟨q479, q57, q477, q478, ⟨by decide +kernel, by decide +kernel⟩, by decide +kernel⟩
theorem mf_X9_isOf : kMV yX9_isOf RX9 cX9_isOf 3 (some .boolean) 2 := ⟨q637, q57, q635, q636, ⟨by decide +kernel, by decide +kernel⟩, by decide +kernel⟩
theorem mf_X9_lastMinute : kMV yX9_lastMinute RX9 cX9_lastMinute 3 (some .int) 0 := ⟨q622, q57, q620, q621, ⟨by decide +kernel, by decide +kernel⟩, by decide +kernel⟩
theorem mf_X9_size : kMV yX9_size RX9 cX9_size 1 (some .int) 0 := ⟨q633, q57, q631, q632, ⟨by decide +kernel, by decide +kernel⟩, by decide +kernel⟩
theorem mf_X9_yard : kMV yX9_yard RX9 cX9_yard 2 (some .int) 1 := ⟨q641, q57, q639, q640, ⟨by decide +kernel, by decide +kernel⟩, by decide +kernel⟩
theorem mf_X11_after : kMV yX11_after RX11 cX11_after 9 (some .int) 2 := ⟨q1026, q67, q1025, q36, ⟨by decide +kernel, by decide +kernel⟩, by decide +kernel⟩
theorem mf_X11_back : kMV yX11_back RX11 cX11_back 2 (some .int) 0 := ⟨q1150, q67, q1148, q1149, ⟨by decide +kernel, by decide +kernel⟩, by decide +kernel⟩
theorem mf_X11_bar : kMV yX11_bar RX11 cX11_bar 4 none 1 := ⟨q1121, q67, q1120, q48, ⟨by decide +kernel, by decide +kernel⟩, by decide +kernel⟩
theorem mf_X11_bars : kMV yX11_bars RX11 cX11_bars 3 (some .int) 0 := ⟨q1085, q67, q1083, q1084, ⟨by decide +kernel, by decide +kernel⟩, by decide +kernel⟩
theorem mf_X11_begin : kMV yX11_begin RX11 cX11_begin 5 none 0 := ⟨q856, q67, q855, q22, ⟨by decide +kernel, by decide +kernel⟩, by decide +kernel⟩
theorem mf_X11_calf : kMV yX11_calf RX11 cX11_calf 4 (some .int) 2 := ⟨q1037, q67, q1035, q1036, ⟨by decide +kernel, by decide +kernel⟩, by decide +kernel⟩
theorem mf_X11_canWin : kMV yX11_canWin RX11 cX11_canWin 7 (some .boolean) 3 := ⟨q1093, q67, q1092, q44, ⟨by decide +kernel, by decide +kernel⟩, by decide +kernel⟩
theorem mf_X11_chance : kMV yX11_chance RX11 cX11_chance 14 (some .long) 3 := ⟨q1133, q67, q1131, q1132, ⟨by decide +kernel, by decide +kernel⟩, by decide +kernel⟩
theorem mf_X11_costBy : kMV yX11_costBy RX11 cX11_costBy 6 (some .int) 3 := ⟨q1077, q67, q1076, q43, ⟨by decide +kernel, by decide +kernel⟩, by decide +kernel⟩
theorem mf_X11_count : kMV yX11_count RX11 cX11_count 2 (some .int) 1 := ⟨q1154, q67, q1152, q1153, ⟨by decide +kernel, by decide +kernel⟩, by decide +kernel⟩
theorem mf_X11_due : kMV yX11_due RX11 cX11_due 2 none 1 := ⟨q967, q67, q966, q27, ⟨by decide +kernel, by decide +kernel⟩, by decide +kernel⟩
theorem mf_X11_far : kMV yX11_far RX11 cX11_far 3 (some .int) 2 := ⟨q979, q67, q977, q978, ⟨by decide +kernel, by decide +kernel⟩, by decide +kernel⟩
theorem mf_X11_fault : kMV yX11_fault RX11 cX11_fault 1 (some .int) 0 := ⟨q947, q67, q945, q946, ⟨by decide +kernel, by decide +kernel⟩, by decide +kernel⟩
theorem mf_X11_fedBy : kMV yX11_fedBy RX11 cX11_fedBy 3 (some .int) 2 := ⟨q1014, q67, q1013, q34, ⟨by decide +kernel, by decide +kernel⟩, by decide +kernel⟩
theorem mf_X11_feed : kMV yX11_feed RX11 cX11_feed 2 (some .int) 1 := ⟨q999, q67, q997, q998, ⟨by decide +kernel, by decide +kernel⟩, by decide +kernel⟩
theorem mf_X11_findFault : kMV yX11_findFault RX11 cX11_findFault 2 (some .int) 0 := ⟨q951, q67, q950, q23, ⟨by decide +kernel, by decide +kernel⟩, by decide +kernel⟩
theorem mf_X11_first : kMV yX11_first RX11 cX11_first 4 (some .int) 0 := ⟨q1081, q67, q1079, q1080, ⟨by decide +kernel, by decide +kernel⟩, by decide +kernel⟩
theorem mf_X11_fits : kMV yX11_fits RX11 cX11_fits 6 (some .boolean) 3 := ⟨q1069, q67, q1068, q41, ⟨by decide +kernel, by decide +kernel⟩, by decide +kernel⟩
theorem mf_X11_forget : kMV yX11_forget RX11 cX11_forget 2 (some .int) 0 := ⟨q1105, q67, q1103, q1104, ⟨by decide +kernel, by decide +kernel⟩, by decide +kernel⟩
theorem mf_X11_game : kMV yX11_game RX11 cX11_game 7 (some .int) 4 := ⟨q1089, q67, q1087, q1088, ⟨by decide +kernel, by decide +kernel⟩, by decide +kernel⟩
theorem mf_X11_goOn : kMV yX11_goOn RX11 cX11_goOn 7 none 3 := ⟨q1125, q67, q1124, q49, ⟨by decide +kernel, by decide +kernel⟩, by decide +kernel⟩
theorem mf_X11_goal : kMV yX11_goal RX11 cX11_goal 3 (some .int) 2 := ⟨q1041, q67, q1039, q1040, ⟨by decide +kernel, by decide +kernel⟩, by decide +kernel⟩
theorem mf_X11_gone : kMV yX11_gone RX11 cX11_gone 6 (some .int) 3 := ⟨q1022, q67, q1021, q35, ⟨by decide +kernel, by decide +kernel⟩, by decide +kernel⟩
theorem mf_X11_here : kMV yX11_here RX11 cX11_here 1 (some .int) 0 := ⟨q959, q67, q958, q25, ⟨by decide +kernel, by decide +kernel⟩, by decide +kernel⟩
theorem mf_X11_how : kMV yX11_how RX11 cX11_how 1 (some .long) 0 := ⟨q1109, q67, q1107, q1108, ⟨by decide +kernel, by decide +kernel⟩, by decide +kernel⟩
theorem mf_X11_howBut : kMV yX11_howBut RX11 cX11_howBut 6 (some .long) 1 := ⟨q1113, q67, q1112, q46, ⟨by decide +kernel, by decide +kernel⟩, by decide +kernel⟩
theorem mf_X11_in : kMS yX11_in cX11_in 3 (some .boolean) 3 := ⟨q938, q67, q937, ⟨by decide +kernel, by decide +kernel⟩, by decide +kernel⟩
theorem mf_X11_isPerson : kMV yX11_isPerson RX11 cX11_isPerson 2 (some .boolean) 1 := ⟨q991, q67, q990, q30, ⟨by decide +kernel, by decide +kernel⟩, by decide +kernel⟩
theorem mf_X11_isState : kMV yX11_isState RX11 cX11_isState 4 (some .boolean) 1 := ⟨q1065, q67, q1064, q40, ⟨by decide +kernel, by decide +kernel⟩, by decide +kernel⟩
theorem mf_X11_isUpTo : kMV yX11_isUpTo RX11 cX11_isUpTo 3 (some .boolean) 2 := ⟨q1057, q67, q1056, q38, ⟨by decide +kernel, by decide +kernel⟩, by decide +kernel⟩
theorem mf_X11_isWonBy : kMV yX11_isWonBy RX11 cX11_isWonBy 4 (some .boolean) 3 := ⟨q1097, q67, q1096, q45, ⟨by decide +kernel, by decide +kernel⟩, by decide +kernel⟩
theorem mf_X11_isYard : kMV yX11_isYard RX11 cX11_isYard 2 (some .boolean) 1 := ⟨q983, q67, q982, q29, ⟨by decide +kernel, by decide +kernel⟩, by decide +kernel⟩
theorem mf_X11_keep : kMV yX11_keep RX11 cX11_keep 2 (some .int) 0 := ⟨q1146, q67, q1144, q1145, ⟨by decide +kernel, by decide +kernel⟩, by decide +kernel⟩
theorem mf_X11_know : kMV yX11_know RX11 cX11_know 2 none 0 := ⟨q1010, q67, q1009, q33, ⟨by decide +kernel, by decide +kernel⟩, by decide +kernel⟩
theorem mf_X11_lastGoal : kMV yX11_lastGoal RX11 cX11_lastGoal 3 (some .int) 0 := ⟨q1053, q67, q1052, q37, ⟨by decide +kernel, by decide +kernel⟩, by decide +kernel⟩
theorem mf_X11_lay : kMV yX11_lay RX11 cX11_lay 4 (some .int) 0 := ⟨q975, q67, q973, q974, ⟨by decide +kernel, by decide +kernel⟩, by decide +kernel⟩
theorem mf_X11_leastOf : kMV yX11_leastOf RX11 cX11_leastOf 6 (some .int) 2 := ⟨q1073, q67, q1072, q42, ⟨by decide +kernel, by decide +kernel⟩, by decide +kernel⟩
theorem mf_X11_link : kMV yX11_link RX11 cX11_link 4 none 3 := ⟨q852, q67, q851, q21, ⟨by decide +kernel, by decide +kernel⟩, by decide +kernel⟩
theorem mf_X11_mayFeed : kMV yX11_mayFeed RX11 cX11_mayFeed 4 (some .boolean) 3 := ⟨q1003, q67, q1002, q32, ⟨by decide +kernel, by decide +kernel⟩, by decide +kernel⟩
theorem mf_X11_noGoals : kMV yX11_noGoals RX11 cX11_noGoals 2 (some .int) 0 := ⟨q1045, q67, q1043, q1044, ⟨by decide +kernel, by decide +kernel⟩, by decide +kernel⟩
theorem mf_X11_number : kMV yX11_number RX11 cX11_number 5 (some .int) 2 := ⟨q963, q67, q962, q26, ⟨by decide +kernel, by decide +kernel⟩, by decide +kernel⟩
theorem mf_X11_pass : kMV yX11_pass RX11 cX11_pass 2 (some .int) 1 := ⟨q1018, q67, q1016, q1017, ⟨by decide +kernel, by decide +kernel⟩, by decide +kernel⟩
theorem mf_X11_person : kMV yX11_person RX11 cX11_person 3 (some .int) 2 := ⟨q987, q67, q985, q986, ⟨by decide +kernel, by decide +kernel⟩, by decide +kernel⟩
theorem mf_X11_placeOf : kMV yX11_placeOf RX11 cX11_placeOf 3 (some .int) 2 := ⟨q995, q67, q994, q31, ⟨by decide +kernel, by decide +kernel⟩, by decide +kernel⟩
theorem mf_X11_price : kMV yX11_price RX11 cX11_price 2 (some .int) 0 := ⟨q1049, q67, q1047, q1048, ⟨by decide +kernel, by decide +kernel⟩, by decide +kernel⟩
theorem mf_X11_priceTo : kMV yX11_priceTo RX11 cX11_priceTo 5 (some .int) 1 := ⟨q1061, q67, q1060, q39, ⟨by decide +kernel, by decide +kernel⟩, by decide +kernel⟩
theorem mf_X11_readItem : kMV yX11_readItem RX11 cX11_readItem 7 none 0 := ⟨q955, q67, q954, q24, ⟨by decide +kernel, by decide +kernel⟩, by decide +kernel⟩
theorem mf_X11_readWay : kMV yX11_readWay RX11 cX11_readWay 3 none 0 := ⟨q971, q67, q970, q28, ⟨by decide +kernel, by decide +kernel⟩, by decide +kernel⟩
theorem mf_X11_seen : kMV yX11_seen RX11 cX11_seen 3 (some .int) 2 := ⟨q1101, q67, q1099, q1100, ⟨by decide +kernel, by decide +kernel⟩, by decide +kernel⟩
theorem mf_X11_startWays : kMV yX11_startWays RX11 cX11_startWays 3 none 1 := ⟨q1117, q67, q1116, q47, ⟨by decide +kernel, by decide +kernel⟩, by decide +kernel⟩
theorem mf_X11_sure : kMV yX11_sure RX11 cX11_sure 2 (some .int) 1 := ⟨q1129, q67, q1127, q1128, ⟨by decide +kernel, by decide +kernel⟩, by decide +kernel⟩
theorem mf_X11_undo : kMV yX11_undo RX11 cX11_undo 2 (some .int) 0 := ⟨q1033, q67, q1031, q1032, ⟨by decide +kernel, by decide +kernel⟩, by decide +kernel⟩
theorem mf_X11_whomOf : kMS yX11_whomOf cX11_whomOf 1 (some .int) 1 := ⟨q1029, q67, q1028, ⟨by decide +kernel, by decide +kernel⟩, by decide +kernel⟩
theorem mf_X11_wipe : kMV yX11_wipe RX11 cX11_wipe 2 (some .int) 0 := ⟨q943, q67, q941, q942, ⟨by decide +kernel, by decide +kernel⟩, by decide +kernel⟩
theorem mf_X11_write : kMV yX11_write RX11 cX11_write 5 (some .int) 2 := ⟨q935, q67, q933, q934, ⟨by decide +kernel, by decide +kernel⟩, by decide +kernel⟩
theorem mf_X11_yardOf : kMS yX11_yardOf cX11_yardOf 1 (some .int) 1 := ⟨q1006, q67, q1005, ⟨by decide +kernel, by decide +kernel⟩, by decide +kernel⟩
theorem mf_X11_year : kMV yX11_year RX11 cX11_year 11 (some .int) 3 := ⟨q1139, q67, q1137, q1138, ⟨by decide +kernel, by decide +kernel⟩, by decide +kernel⟩
theorem mf_J7_fill_53178 : kMS yJ7_fill_53178 cJ7_fill_53178 4 none 2 := ⟨q329, q60, q328, ⟨by decide +kernel, by decide +kernel⟩, by decide +kernel⟩
theorem ksw {x v : Int32} {k : Int} (h : x.toInt = k) (hv : v.toInt = k) : x = v := Int32.toInt_inj.mp (h.trans hv.symm)
theorem klk_c {x v : Int32} {a o d r : Int} {l : List (Int × Int)} (h : ¬ x = v) (hv : v.toInt = a) (hl : Op.lookupswitch.offset l d x.toInt = r) : Op.lookupswitch.offset ((a, o) :: l) d x.toInt = r := by
  rw [Op.lookupswitch.offset_cons, if_neg (fun e => h (ksw e.symm hv))]
  exact hl
theorem klk_4 {x a b c e : Int32} {A B C E o1 o2 o3 o4 d : Int} (h1 : ¬ x = a) (h2 : ¬ x = b) (h3 : ¬ x = c) (h4 : ¬ x = e) (e1 : a.toInt = A := by rfl) (e2 : b.toInt = B := by rfl) (e3 : c.toInt = C := by rfl) (e4 : e.toInt = E := by rfl) : Op.lookupswitch.offset [(A, o1), (B, o2), (C, o3), (E, o4)] d x.toInt = d :=
  klk_c h1 e1 (klk_c h2 e2 (klk_c h3 e3 (klk_c h4 e4 rfl)))
theorem klk_6 {x a b c e f g : Int32} {A B C E F G o1 o2 o3 o4 o5 o6 d : Int} (h1 : ¬ x = a) (h2 : ¬ x = b) (h3 : ¬ x = c) (h4 : ¬ x = e) (h5 : ¬ x = f) (h6 : ¬ x = g) (e1 : a.toInt = A := by rfl) (e2 : b.toInt = B := by rfl) (e3 : c.toInt = C := by rfl) (e4 : e.toInt = E := by rfl) (e5 : f.toInt = F := by rfl) (e6 : g.toInt = G := by rfl) : Op.lookupswitch.offset [(A, o1), (B, o2), (C, o3), (E, o4), (F, o5), (G, o6)] d x.toInt = d :=
  klk_c h1 e1 (klk_c h2 e2 (klk_c h3 e3 (klk_c h4 e4 (klk_c h5 e5 (klk_c h6 e6 rfl)))))
def kfillI (σ : Mm) (k n : Nat) (v : Int32) : Mm := (fun a => if a = k then (fun j => if j < n then v else σ.1 a j) else σ.1 a, σ.2)
theorem kfillI_0 (σ : Mm) (k : Nat) (v : Int32) : kfillI σ k 0 v = σ := by
  unfold kfillI
  refine Prod.ext (funext fun a => ?_) rfl
  dsimp only
  split
  · funext j
    simp
  · rfl
theorem kfillI_s (σ : Mm) (k i : Nat) (v : Int32) : kwi (kfillI σ k i v) k i v = kfillI σ k (i + 1) v := by
  unfold kfillI kwi
  refine Prod.ext (funext fun a => ?_) rfl
  dsimp only
  split
  · funext j
    simp only [upd]
    by_cases hj : j = i
    · subst hj; simp
    · have e : (j < i + 1) = (j < i) := propext (by omega)
      simp [hj, e]
  · rfl
abbrev rm_J7_fill_53178 : Room := { frames := 0, cells := 0, slots := 0, locals := 0 }
set_option maxHeartbeats 4000000 in
set_option maxRecDepth 100000 in
theorem c_fillI (l : Launch) (X : KX) (σ : Mm) (k n : Nat) (v : Int32) (hk : kIsI kZC X k n) (hn : n < 2 ^ 31) : Met l yJ7_fill_53178 (.code yJ7_fill_53178 cJ7_fill_53178 4 none :: kT) rm_J7_fill_53178 (va_Pc [.ref (X.2.1 k), .int v] (kPre kZC X σ)) (va_Qv (fun σ' => σ' = kfillI σ k n v) (fun σ' t => kPre kZC X σ' t) (kA kZC X)) 0 0 (kA kZC X) := by
  refine kofV (by decide) (Nat.le_of_ble_eq_true rfl) ?_
  intro p e s m args below meth c ls Q hx hcb hml hown hts hS hW hl hret
  have hl : lv_has ls 4 [(0, .ref (X.2.1 k)), (1, .int v)] := hl
  refine lv_iconst (v := 0) (pc := 0) hx hcb dJ7_fill_53178_0 rfl ?_
  refine lv_istore_n (lv' := [(2, .int 0), (0, .ref (X.2.1 k)), (1, .int v)]) (pc := 1) hx hcb dJ7_fill_53178_1 rfl hl (by decide) rfl (fun ls hl => ?_)
  refine lv_aload_n (pc := 2) hx hcb dJ7_fill_53178_2 rfl (lv_at hl 1 rfl) ?_
  refine kalenI (pc := 3) hx hcb hS hW hk dJ7_fill_53178_3 ?_
  refine lv_istore_n (lv' := [(3, .int (nI n)), (2, .int 0), (0, .ref (X.2.1 k)), (1, .int v)]) (pc := 4) hx hcb dJ7_fill_53178_4 rfl hl (by decide) rfl (fun ls hl => ?_)
  have hL : ∀ (g i : Nat) (σ1 : Mm) (H : Heap) (locs : List Loc) (ls : Array Slot), i ≤ n → n < i + g → σ1 = kfillI σ k i v → kW kZC X (kA kZC X) s σ1 H locs → lv_has ls 4 [(3, .int (nI n)), (2, .int (nI i)), (0, .ref (X.2.1 k)), (1, .int v)] → W p l e rm_J7_fill_53178 s m args below meth c H locs 0 0 Q (F0 m 5 ls []) := by
    intro g
    induction g with
    | zero => intro i σ1 H locs ls h1 h2; omega
    | succ g ih =>
      intro i σ1 H locs ls h1 h2 e1 hW hl
      refine lv_iload_n (pc := 5) hx hcb dJ7_fill_53178_5 rfl (lv_at hl 1 rfl) ?_
      refine lv_iload_n (pc := 6) hx hcb dJ7_fill_53178_6 rfl (lv_at hl 0 rfl) ?_
      refine lv_icmp_ge (tgt := 20) (pc := 7) hx hcb dJ7_fill_53178_7 (by decide) (fun c1 => ?_) (fun c1 => ?_)
      · have : i = n := by
          rcases Nat.lt_or_ge i n with q | q
          · exact absurd c1 (nI_ge q hn)
          · omega
        subst this
        exact hret _ _ _ _ _ e1 hW dJ7_fill_53178_20
      · have hlt : i < n := by
          rcases Nat.lt_or_ge i n with q | q
          · exact q
          · exact absurd (nI_le q (by omega)) c1
        refine lv_aload_n (pc := 10) hx hcb dJ7_fill_53178_10 rfl (lv_at hl 2 rfl) ?_
        refine lv_iload_n (pc := 11) hx hcb dJ7_fill_53178_11 rfl (lv_at hl 1 rfl) ?_
        refine lv_iload_n (pc := 12) hx hcb dJ7_fill_53178_12 rfl (lv_at hl 3 rfl) ?_
        refine kiast i (pc := 13) hx hcb hS hW hk (nI_clamp (by omega)) (vp_in_nI hlt hn) dJ7_fill_53178_13 (fun σ2 H locs e2 hW => ?_)
        refine lv_iinc (v := nI (i + 1)) (lv' := [(2, .int (nI (i + 1))), (3, .int (nI n)), (0, .ref (X.2.1 k)), (1, .int v)]) (pc := 14) hx hcb dJ7_fill_53178_14 hl (k := 1) rfl (nI_1 i) (by decide) rfl (fun ls hl => ?_)
        refine lv_goto (tgt := 5) (pc := 17) hx hcb dJ7_fill_53178_17 (by decide) ?_
        exact ih (i + 1) σ2 _ _ _ hlt (by omega) (by rw [e2, e1, kfillI_s]) hW (lv_sub hl [1, 0, 2, 3] rfl)
  exact hL (n + 1) 0 σ _ _ _ (Nat.zero_le n) (by omega) (kfillI_0 σ k v).symm hW (lv_sub hl [0, 1, 2, 3] rfl)
def kfillJ (σ : Mm) (k n : Nat) (v : Int64) : Mm := (σ.1, fun a => if a = k then (fun j => if j < n then v else σ.2.1 a j) else σ.2.1 a, σ.2.2)
theorem kfillJ_0 (σ : Mm) (k : Nat) (v : Int64) : kfillJ σ k 0 v = σ := by
  unfold kfillJ
  refine Prod.ext rfl (Prod.ext (funext fun a => ?_) rfl)
  dsimp only
  split
  · funext j
    simp
  · rfl
theorem kfillJ_s (σ : Mm) (k i : Nat) (v : Int64) : kwl (kfillJ σ k i v) k i v = kfillJ σ k (i + 1) v := by
  unfold kfillJ kwl
  refine Prod.ext rfl (Prod.ext (funext fun a => ?_) rfl)
  dsimp only
  split
  · funext j
    simp only [vp_updL]
    by_cases hj : j = i
    · subst hj; simp
    · have e : (j < i + 1) = (j < i) := propext (by omega)
      simp [hj, e]
  · rfl
abbrev rm_J7_fill_d0a16 : Room := { frames := 0, cells := 0, slots := 0, locals := 0 }
set_option maxHeartbeats 4000000 in
set_option maxRecDepth 100000 in
theorem c_fillJ (l : Launch) (X : KX) (σ : Mm) (k n : Nat) (v : Int64) (hk : kIsJ kZC X k n) (hn : n < 2 ^ 31) : Met l yJ7_fill_d0a16 (.code yJ7_fill_d0a16 cJ7_fill_d0a16 5 none :: kT) rm_J7_fill_d0a16 (va_Pc [.ref (X.2.1 k), .long v] (kPre kZC X σ)) (va_Qv (fun σ' => σ' = kfillJ σ k n v) (fun σ' t => kPre kZC X σ' t) (kA kZC X)) 0 0 (kA kZC X) := by
  refine kofV (by decide) (Nat.le_of_ble_eq_true rfl) ?_
  intro p e s m args below meth c ls Q hx hcb hml hown hts hS hW hl hret
  have hl : lv_has ls 5 [(0, .ref (X.2.1 k)), (1, .long v)] := hl
  refine lv_iconst (v := 0) (pc := 0) hx hcb dJ7_fill_d0a16_0 rfl ?_
  refine lv_istore_n (lv' := [(3, .int 0), (0, .ref (X.2.1 k)), (1, .long v)]) (pc := 1) hx hcb dJ7_fill_d0a16_1 rfl hl (by decide) rfl (fun ls hl => ?_)
  refine lv_aload_n (pc := 2) hx hcb dJ7_fill_d0a16_2 rfl (lv_at hl 1 rfl) ?_
  refine kalenJ (pc := 3) hx hcb hS hW hk dJ7_fill_d0a16_3 ?_
  refine lv_istore (lv' := [(4, .int (nI n)), (3, .int 0), (0, .ref (X.2.1 k)), (1, .long v)]) (pc := 4) hx hcb dJ7_fill_d0a16_4 hl (by decide) rfl (fun ls hl => ?_)
  have hL : ∀ (g i : Nat) (σ1 : Mm) (H : Heap) (locs : List Loc) (ls : Array Slot), i ≤ n → n < i + g → σ1 = kfillJ σ k i v → kW kZC X (kA kZC X) s σ1 H locs → lv_has ls 5 [(4, .int (nI n)), (3, .int (nI i)), (0, .ref (X.2.1 k)), (1, .long v)] → W p l e rm_J7_fill_d0a16 s m args below meth c H locs 0 0 Q (F0 m 6 ls []) := by
    intro g
    induction g with
    | zero => intro i σ1 H locs ls h1 h2; omega
    | succ g ih =>
      intro i σ1 H locs ls h1 h2 e1 hW hl
      refine lv_iload_n (pc := 6) hx hcb dJ7_fill_d0a16_6 rfl (lv_at hl 1 rfl) ?_
      refine lv_iload (pc := 7) hx hcb dJ7_fill_d0a16_7 (lv_at hl 0 rfl) ?_
      refine lv_icmp_ge (tgt := 22) (pc := 9) hx hcb dJ7_fill_d0a16_9 (by decide) (fun c1 => ?_) (fun c1 => ?_)
      · have : i = n := by
          rcases Nat.lt_or_ge i n with q | q
          · exact absurd c1 (nI_ge q hn)
          · omega
        subst this
        exact hret _ _ _ _ _ e1 hW dJ7_fill_d0a16_22
      · have hlt : i < n := by
          rcases Nat.lt_or_ge i n with q | q
          · exact q
          · exact absurd (nI_le q (by omega)) c1
        refine lv_aload_n (pc := 12) hx hcb dJ7_fill_d0a16_12 rfl (lv_at hl 2 rfl) ?_
        refine lv_iload_n (pc := 13) hx hcb dJ7_fill_d0a16_13 rfl (lv_at hl 1 rfl) ?_
        refine lv_lload_n (pc := 14) hx hcb dJ7_fill_d0a16_14 rfl (lv_at hl 3 rfl) ?_
        refine klast i (pc := 15) hx hcb hS hW hk (nI_clamp (by omega)) (vp_in_nI hlt hn) dJ7_fill_d0a16_15 (fun σ2 H locs e2 hW => ?_)
        refine lv_iinc (v := nI (i + 1)) (lv' := [(3, .int (nI (i + 1))), (4, .int (nI n)), (0, .ref (X.2.1 k)), (1, .long v)]) (pc := 16) hx hcb dJ7_fill_d0a16_16 hl (k := 1) rfl (nI_1 i) (by decide) rfl (fun ls hl => ?_)
        refine lv_goto (tgt := 6) (pc := 19) hx hcb dJ7_fill_d0a16_19 (by decide) ?_
        exact ih (i + 1) σ2 _ _ _ hlt (by omega) (by rw [e2, e1, kfillJ_s]) hW (lv_sub hl [1, 0, 2, 3] rfl)
  exact hL (n + 1) 0 σ _ _ _ (Nat.zero_le n) (by omega) (kfillJ_0 σ k v).symm hW (lv_sub hl [0, 1, 2, 3] rfl)
