def wsL_law_r1 : List Cond := [Cond.classLink RL 7 RX10, Cond.instantiable RX10 18, Cond.initialized RX10, Cond.classLink RL 10 RX11, Cond.instantiable RX11 39, Cond.initialized RX11, Cond.methodLink RL 9 yX10_init, Cond.instanceMethod yX10_init, Cond.code yX10_init cX10_init 2 none, Cond.methodLink RX10 5 objectInit, Cond.instanceMethod objectInit, Cond.code objectInit ⟨#[0xb1]⟩ 1 none, Cond.classLink RX10 11 RX5, Cond.instantiable RX5 5, Cond.initialized RX5, Cond.fieldLink RX10 14 "FindOrder" "site" "LFindOrder$Site;", Cond.fieldLink RX10 18 "FindOrder" "imaged" "LFindOrder$Site;", Cond.fieldLink RX10 21 "FindOrder" "draft" "LFindOrder$Site;", Cond.classLink RX10 24 RX3, Cond.instantiable RX3 7, Cond.initialized RX3, Cond.fieldLink RX10 27 "FindOrder" "plan" "LFindOrder$Plan;", Cond.fieldLink RX10 31 "FindOrder" "trial" "LFindOrder$Plan;", Cond.classLink RX10 34 RX6]
def wsL_law_r2 : List Cond := [Cond.instantiable RX6 1, Cond.initialized RX6, Cond.fieldLink RX10 37 "FindOrder" "spread" "LFindOrder$Spread;", Cond.classLink RX10 41 RX0, Cond.instantiable RX0 2, Cond.initialized RX0, Cond.fieldLink RX10 44 "FindOrder" "bonds" "LFindOrder$Bonds;", Cond.classLink RX10 48 RX9, Cond.instantiable RX9 9, Cond.initialized RX9, Cond.fieldLink RX10 51 "FindOrder" "tree" "LFindOrder$Tree;", Cond.classLink RX10 55 RX7, Cond.instantiable RX7 6, Cond.initialized RX7, Cond.fieldLink RX10 58 "FindOrder" "tape" "LFindOrder$Tape;", Cond.classLink RX10 62 RX4, Cond.instantiable RX4 2, Cond.initialized RX4, Cond.fieldLink RX10 65 "FindOrder" "sheet" "LFindOrder$Sheet;", Cond.classLink RX10 69 RX8, Cond.fieldLink RX10 71 "FindOrder" "trays" "[LFindOrder$Tray;", Cond.classLink RX10 75 RX1, Cond.fieldLink RX10 77 "FindOrder" "lists" "[LFindOrder$Items;", Cond.arrayClass .int]
def wsL_law_r3 : List Cond := [Cond.fieldLink RX10 81 "FindOrder" "row" "[I", Cond.instantiable RX8 4, Cond.initialized RX8, Cond.instantiable RX1 2, Cond.initialized RX1, Cond.instanceMethod yX5_init, Cond.code yX5_init cX5_init 1 none, Cond.methodLink RX5 3 objectInit, Cond.fieldLink RX5 9 "FindOrder$Site" "age" "[I", Cond.fieldLink RX5 15 "FindOrder$Site" "set" "[I", Cond.fieldLink RX5 18 "FindOrder$Site" "name" "[I", Cond.instanceMethod yX3_init, Cond.code yX3_init cX3_init 1 none, Cond.methodLink RX3 3 objectInit, Cond.fieldLink RX3 9 "FindOrder$Plan" "set" "[I", Cond.fieldLink RX3 15 "FindOrder$Plan" "seen" "[I", Cond.fieldLink RX3 18 "FindOrder$Plan" "tail" "[I", Cond.fieldLink RX3 21 "FindOrder$Plan" "ways" "[I", Cond.instanceMethod yX6_init, Cond.code yX6_init cX6_init 1 none, Cond.methodLink RX6 3 objectInit, Cond.classLink RX6 9 "[[I", Cond.fieldLink RX6 11 "FindOrder$Spread" "ways" "[[I", Cond.instanceMethod yX0_init]
def wsL_law_r4 : List Cond := [Cond.code yX0_init cX0_init 1 none, Cond.methodLink RX0 3 objectInit, Cond.classLink RX0 9 "[[I", Cond.fieldLink RX0 11 "FindOrder$Bonds" "best" "[[I", Cond.instanceMethod yX9_init, Cond.code yX9_init cX9_init 1 none, Cond.methodLink RX9 3 objectInit, Cond.arrayClass .boolean, Cond.fieldLink RX9 9 "FindOrder$Tree" "isCluster" "[Z", Cond.fieldLink RX9 15 "FindOrder$Tree" "isReached" "[Z", Cond.fieldLink RX9 18 "FindOrder$Tree" "bits" "[I", Cond.fieldLink RX9 22 "FindOrder$Tree" "sort" "[I", Cond.fieldLink RX9 25 "FindOrder$Tree" "children" "[I", Cond.fieldLink RX9 28 "FindOrder$Tree" "parent" "[I", Cond.instanceMethod yX7_init, Cond.code yX7_init cX7_init 1 none, Cond.methodLink RX7 3 objectInit, Cond.fieldLink RX7 9 "FindOrder$Tape" "bytes" "[I", Cond.instanceMethod yX4_init, Cond.code yX4_init cX4_init 1 none, Cond.methodLink RX4 3 objectInit, Cond.fieldLink RX4 11 "FindOrder$Sheet" "bytes" "[I", Cond.instanceMethod yX8_init, Cond.code yX8_init cX8_init 1 none]
def wsL_law_r5 : List Cond := [Cond.methodLink RX8 3 objectInit, Cond.fieldLink RX8 11 "FindOrder$Tray" "names" "[I", Cond.fieldLink RX8 15 "FindOrder$Tray" "counts" "[I", Cond.instanceMethod yX1_init, Cond.code yX1_init cX1_init 1 none, Cond.methodLink RX1 3 objectInit, Cond.fieldLink RX1 9 "FindOrder$Items" "size" "I", Cond.fieldLink RX1 15 "FindOrder$Items" "values" "[I", Cond.methodLink RL 12 yX11_init, Cond.instanceMethod yX11_init, Cond.code yX11_init cX11_init 1 none, Cond.methodLink RX11 9 objectInit, Cond.fieldLink RX11 15 "FindOrderModel" "ages" "[I", Cond.fieldLink RX11 19 "FindOrderModel" "sets" "[I", Cond.fieldLink RX11 22 "FindOrderModel" "names" "[I", Cond.fieldLink RX11 25 "FindOrderModel" "row" "[I", Cond.fieldLink RX11 28 "FindOrderModel" "free" "[I", Cond.fieldLink RX11 31 "FindOrderModel" "lain" "[I", Cond.fieldLink RX11 34 "FindOrderModel" "knots" "[I", Cond.fieldLink RX11 37 "FindOrderModel" "tape" "[I", Cond.fieldLink RX11 40 "FindOrderModel" "told" "[I", Cond.fieldLink RX11 43 "FindOrderModel" "sideAges" "[I", Cond.fieldLink RX11 46 "FindOrderModel" "sideSets" "[I", Cond.fieldLink RX11 49 "FindOrderModel" "paper" "[I"]
def wsL_law_r6 : List Cond := [Cond.fieldLink RX11 52 "FindOrderModel" "isThere" "[Z", Cond.fieldLink RX11 56 "FindOrderModel" "laidMany" "[I", Cond.fieldLink RX11 59 "FindOrderModel" "laidNames" "[I", Cond.fieldLink RX11 62 "FindOrderModel" "laidCounts" "[I", Cond.fieldLink RX11 65 "FindOrderModel" "sizes" "[I", Cond.fieldLink RX11 68 "FindOrderModel" "items" "[I", Cond.fieldLink RX11 71 "FindOrderModel" "keptAges" "[I", Cond.fieldLink RX11 74 "FindOrderModel" "keptSets" "[I", Cond.fieldLink RX11 77 "FindOrderModel" "keptNames" "[I", Cond.methodLink RL 13 yX10_grave, Cond.instanceMethod yX10_grave, Cond.selects RX10 yX10_grave yX10_grave, Cond.code yX10_grave cX10_grave 3 (some .int), Cond.methodLink RX10 87 yX5_dig, Cond.instanceMethod yX5_dig, Cond.selects RX5 yX5_dig yX5_dig, Cond.code yX5_dig cX5_dig 2 (some .int), Cond.fieldLink RX5 21 "FindOrder$Site" "graves" "I", Cond.methodLink RX10 91 yX10_siteChanged, Cond.instanceMethod yX10_siteChanged, Cond.selects RX10 yX10_siteChanged yX10_siteChanged, Cond.code yX10_siteChanged cX10_siteChanged 1 none, Cond.fieldLink RX10 322 "FindOrder" "planMade" "Z", Cond.fieldLink RX10 325 "FindOrder" "treeMade" "Z"]
def wsL_law_r7 : List Cond := [Cond.fieldLink RX10 328 "FindOrder" "sheetMade" "Z", Cond.methodLink RL 17 yX11_grave, Cond.instanceMethod yX11_grave, Cond.selects RX11 yX11_grave yX11_grave, Cond.code yX11_grave cX11_grave 2 (some .int), Cond.fieldLink RX11 80 "FindOrderModel" "graves" "I", Cond.methodLink RX11 83 yX11_in, Cond.static yX11_in, Cond.code yX11_in cX11_in 3 (some .boolean), Cond.methodLink RL 18 yX10_has, Cond.instanceMethod yX10_has, Cond.selects RX10 yX10_has yX10_has, Cond.code yX10_has cX10_has 5 (some .int), Cond.methodLink RX10 94 yX5_holds, Cond.instanceMethod yX5_holds, Cond.selects RX5 yX5_holds yX5_holds, Cond.code yX5_holds cX5_holds 2 (some .boolean), Cond.methodLink RX10 98 yX5_knows, Cond.instanceMethod yX5_knows, Cond.selects RX5 yX5_knows yX5_knows, Cond.code yX5_knows cX5_knows 2 (some .boolean), Cond.fieldLink RX5 25 "FindOrder$Site" "types" "I", Cond.methodLink RX10 101 yX5_owns, Cond.instanceMethod yX5_owns]
def wsL_law_r8 : List Cond := [Cond.selects RX5 yX5_owns yX5_owns, Cond.code yX5_owns cX5_owns 3 (some .boolean), Cond.methodLink RX5 34 yX5_holds, Cond.methodLink RX10 105 yX5_mark, Cond.instanceMethod yX5_mark, Cond.selects RX5 yX5_mark yX5_mark, Cond.code yX5_mark cX5_mark 4 (some .boolean), Cond.methodLink RX5 38 yX5_knows, Cond.methodLink RL 22 yX11_has_, Cond.instanceMethod yX11_has_, Cond.selects RX11 yX11_has_ yX11_has_, Cond.code yX11_has_ cX11_has_ 5 (some .int), Cond.methodLink RX11 90 yX11_isGrave, Cond.instanceMethod yX11_isGrave, Cond.selects RX11 yX11_isGrave yX11_isGrave, Cond.code yX11_isGrave cX11_isGrave 2 (some .boolean), Cond.methodLink RX11 94 yX11_isType, Cond.instanceMethod yX11_isType, Cond.selects RX11 yX11_isType yX11_isType, Cond.code yX11_isType cX11_isType 2 (some .boolean), Cond.fieldLink RX11 87 "FindOrderModel" "types" "I", Cond.methodLink RL 23 yX10_of, Cond.instanceMethod yX10_of, Cond.selects RX10 yX10_of yX10_of]
def wsL_law_r9 : List Cond := [Cond.code yX10_of cX10_of 3 (some .int), Cond.fieldLink RX10 109 "FindOrder$Site" "age" "[I", Cond.fieldLink RX10 112 "FindOrder$Site" "set" "[I", Cond.methodLink RX10 115 yX5_peers, Cond.instanceMethod yX5_peers, Cond.selects RX5 yX5_peers yX5_peers, Cond.code yX5_peers cX5_peers 4 (some .int), Cond.methodLink RX10 118 yX5_friends, Cond.instanceMethod yX5_friends, Cond.selects RX5 yX5_friends yX5_friends, Cond.code yX5_friends cX5_friends 4 (some .int), Cond.methodLink RX5 51 yX5_common, Cond.instanceMethod yX5_common, Cond.selects RX5 yX5_common yX5_common, Cond.code yX5_common cX5_common 3 (some .int), Cond.methodLink RX5 45 yJ6_bitCount_0f7a4, Cond.static yJ6_bitCount_0f7a4, Cond.initialized RJ6, Cond.code yJ6_bitCount_0f7a4 cJ6_bitCount_0f7a4 1 (some .int), Cond.constant RJ6 265 (1431655765), Cond.constant RJ6 266 (858993459), Cond.constant RJ6 267 (252645135), Cond.methodLink RL 27 yX11_of, Cond.instanceMethod yX11_of]
def wsL_law_r10 : List Cond := [Cond.selects RX11 yX11_of yX11_of, Cond.code yX11_of cX11_of 3 (some .int), Cond.methodLink RX11 97 yX11_peers, Cond.instanceMethod yX11_peers, Cond.selects RX11 yX11_peers yX11_peers, Cond.code yX11_peers cX11_peers 4 (some .int), Cond.methodLink RX11 101 yX11_sharers, Cond.instanceMethod yX11_sharers, Cond.selects RX11 yX11_sharers yX11_sharers, Cond.code yX11_sharers cX11_sharers 4 (some .int), Cond.methodLink RL 28 yX10_type, Cond.instanceMethod yX10_type, Cond.selects RX10 yX10_type yX10_type, Cond.code yX10_type cX10_type 4 (some .int), Cond.fieldLink RX10 124 "FindOrder$Site" "name" "[I", Cond.methodLink RX10 121 yX5_owners, Cond.instanceMethod yX5_owners, Cond.selects RX5 yX5_owners yX5_owners, Cond.code yX5_owners cX5_owners 4 (some .int), Cond.methodLink RX5 41 yX5_owns, Cond.methodLink RX10 127 yX2_length, Cond.static yX2_length, Cond.initialized RX2, Cond.code yX2_length cX2_length 3 (some .int)]
def wsL_law_r11 : List Cond := [Cond.methodLink RX2 9 yX2_letter, Cond.static yX2_letter, Cond.code yX2_letter cX2_letter 3 (some .int), Cond.fieldLink RX2 15 "FindOrder$Names" "WORTH" "[I", Cond.methodLink RX10 132 yX2_letter, Cond.methodLink RL 31 yX11_type, Cond.instanceMethod yX11_type, Cond.selects RX11 yX11_type yX11_type, Cond.code yX11_type cX11_type 4 (some .int), Cond.methodLink RX11 108 yX11_gravesWith, Cond.instanceMethod yX11_gravesWith, Cond.selects RX11 yX11_gravesWith yX11_gravesWith, Cond.code yX11_gravesWith cX11_gravesWith 4 (some .int), Cond.methodLink RX11 111 yX11_lettersOf, Cond.static yX11_lettersOf, Cond.code yX11_lettersOf cX11_lettersOf 2 (some .int), Cond.methodLink RX11 104 yX11_letterOf, Cond.static yX11_letterOf, Cond.code yX11_letterOf cX11_letterOf 4 (some .int), Cond.methodLink RL 32 yX10_drop, Cond.instanceMethod yX10_drop, Cond.selects RX10 yX10_drop yX10_drop, Cond.code yX10_drop cX10_drop 2 (some .int), Cond.fieldLink RX10 140 "FindOrder$Site" "graves" "I"]
def wsL_law_r12 : List Cond := [Cond.methodLink RX10 136 yX5_remove, Cond.instanceMethod yX5_remove, Cond.selects RX5 yX5_remove yX5_remove, Cond.code yX5_remove cX5_remove 3 none, Cond.methodLink RL 35 yX11_drop, Cond.instanceMethod yX11_drop, Cond.selects RX11 yX11_drop yX11_drop, Cond.code yX11_drop cX11_drop 3 (some .int), Cond.methodLink RL 36 yX10_count, Cond.instanceMethod yX10_count, Cond.selects RX10 yX10_count yX10_count, Cond.code yX10_count cX10_count 2 (some .int), Cond.fieldLink RX10 144 "FindOrder$Site" "types" "I", Cond.fieldLink RX10 151 "FindOrder$Tape" "size" "I", Cond.fieldLink RX10 154 "FindOrder" "texts" "I", Cond.methodLink RX10 147 yX5_parts, Cond.instanceMethod yX5_parts, Cond.selects RX5 yX5_parts yX5_parts, Cond.code yX5_parts cX5_parts 4 (some .int), Cond.methodLink RX5 55 yX5_partOf, Cond.instanceMethod yX5_partOf, Cond.selects RX5 yX5_partOf yX5_partOf, Cond.code yX5_partOf cX5_partOf 5 (some .int), Cond.methodLink RX5 58 yX5_sharesWithin]
def wsL_law_r13 : List Cond := [Cond.instanceMethod yX5_sharesWithin, Cond.selects RX5 yX5_sharesWithin yX5_sharesWithin, Cond.code yX5_sharesWithin cX5_sharesWithin 4 (some .boolean), Cond.methodLink RX10 157 yX5_bare, Cond.instanceMethod yX5_bare, Cond.selects RX5 yX5_bare yX5_bare, Cond.code yX5_bare cX5_bare 3 (some .int), Cond.methodLink RL 39 yX11_count, Cond.instanceMethod yX11_count, Cond.selects RX11 yX11_count yX11_count, Cond.code yX11_count cX11_count 2 (some .int), Cond.fieldLink RX11 125 "FindOrderModel" "taped" "I", Cond.fieldLink RX11 128 "FindOrderModel" "textsDone" "I", Cond.methodLink RX11 121 yX11_parts, Cond.instanceMethod yX11_parts, Cond.selects RX11 yX11_parts yX11_parts, Cond.code yX11_parts cX11_parts 4 (some .int), Cond.methodLink RX11 114 yX11_has, Cond.static yX11_has, Cond.code yX11_has cX11_has 2 (some .boolean), Cond.methodLink RX11 118 yX11_partOf, Cond.instanceMethod yX11_partOf, Cond.selects RX11 yX11_partOf yX11_partOf, Cond.code yX11_partOf cX11_partOf 6 (some .int)]
def wsL_law_r14 : List Cond := [Cond.methodLink RX11 131 yX11_bare, Cond.instanceMethod yX11_bare, Cond.selects RX11 yX11_bare yX11_bare, Cond.code yX11_bare cX11_bare 3 (some .int), Cond.methodLink RL 40 yX10_orders, Cond.instanceMethod yX10_orders, Cond.selects RX10 yX10_orders yX10_orders, Cond.code yX10_orders cX10_orders 2 (some .int), Cond.methodLink RX10 160 yX10_readyPlan, Cond.instanceMethod yX10_readyPlan, Cond.selects RX10 yX10_readyPlan yX10_readyPlan, Cond.code yX10_readyPlan cX10_readyPlan 1 (some (.object "FindOrder$Plan")), Cond.methodLink RX10 180 yX5_everybody, Cond.instanceMethod yX5_everybody, Cond.selects RX5 yX5_everybody yX5_everybody, Cond.code yX5_everybody cX5_everybody 1 (some .int), Cond.methodLink RX10 183 yX5_everything, Cond.instanceMethod yX5_everything, Cond.selects RX5 yX5_everything yX5_everything, Cond.code yX5_everything cX5_everything 1 (some .int), Cond.methodLink RX10 186 yX3_make, Cond.instanceMethod yX3_make, Cond.selects RX3 yX3_make yX3_make, Cond.code yX3_make cX3_make 7 none]
def wsL_law_r15 : List Cond := [Cond.fieldLink RX3 24 "FindOrder$Plan" "all" "I", Cond.fieldLink RX3 28 "FindOrder$Plan" "first" "I", Cond.fieldLink RX3 31 "FindOrder$Plan" "last" "I", Cond.fieldLink RX3 40 "FindOrder$Site" "set" "[I", Cond.methodLink RX3 34 yX5_holds, Cond.methodLink RX3 41 yJ6_numberOfTrailingZeros_0f7a4, Cond.static yJ6_numberOfTrailingZeros_0f7a4, Cond.code yJ6_numberOfTrailingZeros_0f7a4 cJ6_numberOfTrailingZeros_0f7a4 2 (some .int), Cond.constant RJ6 264 (65536), Cond.methodLink RX3 47 yX3_settle, Cond.instanceMethod yX3_settle, Cond.selects RX3 yX3_settle yX3_settle, Cond.code yX3_settle cX3_settle 7 none, Cond.methodLink RX3 51 yX3_mayFollow, Cond.instanceMethod yX3_mayFollow, Cond.selects RX3 yX3_mayFollow yX3_mayFollow, Cond.code yX3_mayFollow cX3_mayFollow 4 (some .boolean), Cond.methodLink RX3 55 yX3_toll, Cond.instanceMethod yX3_toll, Cond.selects RX3 yX3_toll yX3_toll, Cond.code yX3_toll cX3_toll 3 (some .int), Cond.methodLink RX3 59 yJ6_bitCount_0f7a4, Cond.methodLink RX10 164 yX6_within, Cond.instanceMethod yX6_within]
def wsL_law_r16 : List Cond := [Cond.selects RX6 yX6_within yX6_within, Cond.code yX6_within cX6_within 5 (some .int), Cond.fieldLink RX6 16 "FindOrder$Plan" "all" "I", Cond.methodLink RX6 22 yX6_settle, Cond.instanceMethod yX6_settle, Cond.selects RX6 yX6_settle yX6_settle, Cond.code yX6_settle cX6_settle 8 none, Cond.methodLink RX6 26 yX3_mayFollow, Cond.methodLink RX6 30 yX3_toll, Cond.methodLink RL 43 yX11_orders, Cond.instanceMethod yX11_orders, Cond.selects RX11 yX11_orders yX11_orders, Cond.code yX11_orders cX11_orders 4 (some .int), Cond.methodLink RX11 150 yX11_beginsAll, Cond.instanceMethod yX11_beginsAll, Cond.selects RX11 yX11_beginsAll yX11_beginsAll, Cond.code yX11_beginsAll cX11_beginsAll 1 none, Cond.methodLink RX11 140 yX11_begins, Cond.instanceMethod yX11_begins, Cond.selects RX11 yX11_begins yX11_begins, Cond.code yX11_begins cX11_begins 4 none, Cond.fieldLink RX11 134 "FindOrderModel" "rowMany" "I", Cond.fieldLink RX11 137 "FindOrderModel" "typesNow" "I", Cond.methodLink RX11 153 yX11_gapsNow]
def wsL_law_r17 : List Cond := [Cond.instanceMethod yX11_gapsNow, Cond.selects RX11 yX11_gapsNow yX11_gapsNow, Cond.code yX11_gapsNow cX11_gapsNow 3 (some .int), Cond.methodLink RX11 144 yX11_gapsOf, Cond.instanceMethod yX11_gapsOf, Cond.selects RX11 yX11_gapsOf yX11_gapsOf, Cond.code yX11_gapsOf cX11_gapsOf 6 (some .int), Cond.methodLink RX11 159 yX11_goesOn, Cond.instanceMethod yX11_goesOn, Cond.selects RX11 yX11_goesOn yX11_goesOn, Cond.code yX11_goesOn cX11_goesOn 7 (some .boolean), Cond.methodLink RL 44 yX10_gapless, Cond.instanceMethod yX10_gapless, Cond.selects RX10 yX10_gapless yX10_gapless, Cond.code yX10_gapless cX10_gapless 3 (some .int), Cond.methodLink RX10 168 yX3_smoothOrders, Cond.instanceMethod yX3_smoothOrders, Cond.selects RX3 yX3_smoothOrders yX3_smoothOrders, Cond.code yX3_smoothOrders cX3_smoothOrders 1 (some .int), Cond.methodLink RX10 171 yX3_pick, Cond.instanceMethod yX3_pick, Cond.selects RX3 yX3_pick yX3_pick, Cond.code yX3_pick cX3_pick 8 (some .int), Cond.methodLink RX3 62 yX3_isBest]
def wsL_law_r18 : List Cond := [Cond.instanceMethod yX3_isBest, Cond.selects RX3 yX3_isBest yX3_isBest, Cond.code yX3_isBest cX3_isBest 3 (some .boolean), Cond.methodLink RL 47 yX11_gapless, Cond.instanceMethod yX11_gapless, Cond.selects RX11 yX11_gapless yX11_gapless, Cond.code yX11_gapless cX11_gapless 2 (some .int), Cond.fieldLink RX11 147 "FindOrderModel" "frees" "I", Cond.methodLink RX11 163 yX11_gaplessOnes, Cond.instanceMethod yX11_gaplessOnes, Cond.selects RX11 yX11_gaplessOnes yX11_gaplessOnes, Cond.code yX11_gaplessOnes cX11_gaplessOnes 2 none, Cond.methodLink RX11 156 yX11_digits, Cond.instanceMethod yX11_digits, Cond.selects RX11 yX11_digits yX11_digits, Cond.code yX11_digits cX11_digits 3 (some .int), Cond.methodLink RL 48 yX10_fewest, Cond.instanceMethod yX10_fewest, Cond.selects RX10 yX10_fewest yX10_fewest, Cond.code yX10_fewest cX10_fewest 3 (some .int), Cond.fieldLink RX10 177 "FindOrder$Plan" "ways" "[I", Cond.methodLink RX10 174 yX3_least, Cond.instanceMethod yX3_least, Cond.selects RX3 yX3_least yX3_least]
def wsL_law_r19 : List Cond := [Cond.code yX3_least cX3_least 1 (some .int), Cond.methodLink RL 51 yX11_fewest, Cond.instanceMethod yX11_fewest, Cond.selects RX11 yX11_fewest yX11_fewest, Cond.code yX11_fewest cX11_fewest 7 (some .int), Cond.methodLink RL 52 yX10_ends, Cond.instanceMethod yX10_ends, Cond.selects RX10 yX10_ends yX10_ends, Cond.code yX10_ends cX10_ends 4 (some .int), Cond.methodLink RL 55 yX11_ends, Cond.instanceMethod yX11_ends, Cond.selects RX11 yX11_ends yX11_ends, Cond.code yX11_ends cX11_ends 9 (some .int), Cond.methodLink RL 56 yX10_clusters, Cond.instanceMethod yX10_clusters, Cond.selects RX10 yX10_clusters yX10_clusters, Cond.code yX10_clusters cX10_clusters 1 (some .int), Cond.fieldLink RX10 194 "FindOrder$Tree" "clusterCount" "I", Cond.methodLink RX10 190 yX10_readyTree, Cond.instanceMethod yX10_readyTree, Cond.selects RX10 yX10_readyTree yX10_readyTree, Cond.code yX10_readyTree cX10_readyTree 1 (some (.object "FindOrder$Tree")), Cond.methodLink RX10 331 yX9_make, Cond.instanceMethod yX9_make]
def wsL_law_r20 : List Cond := [Cond.selects RX9 yX9_make yX9_make, Cond.code yX9_make cX9_make 3 none, Cond.fieldLink RX9 31 "FindOrder$Plan" "all" "I", Cond.fieldLink RX9 37 "FindOrder$Tree" "all" "I", Cond.fieldLink RX9 45 "FindOrder$Tree" "size" "I", Cond.methodLink RX9 38 yX9_findClusters, Cond.instanceMethod yX9_findClusters, Cond.selects RX9 yX9_findClusters yX9_findClusters, Cond.code yX9_findClusters cX9_findClusters 4 none, Cond.fieldLink RX9 63 "FindOrder$Tree" "clusterCount" "I", Cond.methodLink RX9 55 yX3_isBest, Cond.methodLink RX9 59 yX9_partPassed, Cond.instanceMethod yX9_partPassed, Cond.selects RX9 yX9_partPassed yX9_partPassed, Cond.code yX9_partPassed cX9_partPassed 5 none, Cond.methodLink RX9 42 yX9_findKnots, Cond.instanceMethod yX9_findKnots, Cond.selects RX9 yX9_findKnots yX9_findKnots, Cond.code yX9_findKnots cX9_findKnots 3 none, Cond.methodLink RX9 66 yJ6_bitCount_0f7a4, Cond.methodLink RX9 71 yX9_isKnot, Cond.instanceMethod yX9_isKnot, Cond.selects RX9 yX9_isKnot yX9_isKnot, Cond.code yX9_isKnot cX9_isKnot 3 (some .boolean)]
def wsL_law_r21 : List Cond := [Cond.methodLink RX9 48 yX9_leastAround, Cond.instanceMethod yX9_leastAround, Cond.selects RX9 yX9_leastAround yX9_leastAround, Cond.code yX9_leastAround cX9_leastAround 3 (some .int), Cond.methodLink RX9 52 yX9_sortOf, Cond.instanceMethod yX9_sortOf, Cond.selects RX9 yX9_sortOf yX9_sortOf, Cond.code yX9_sortOf cX9_sortOf 2 (some .int), Cond.methodLink RX9 75 yX9_hasPair, Cond.instanceMethod yX9_hasPair, Cond.selects RX9 yX9_hasPair yX9_hasPair, Cond.code yX9_hasPair cX9_hasPair 4 (some .boolean), Cond.methodLink RL 60 yX11_clusters, Cond.instanceMethod yX11_clusters, Cond.selects RX11 yX11_clusters yX11_clusters, Cond.code yX11_clusters cX11_clusters 3 (some .int), Cond.methodLink RX11 175 yX11_liesTogether, Cond.instanceMethod yX11_liesTogether, Cond.selects RX11 yX11_liesTogether yX11_liesTogether, Cond.code yX11_liesTogether cX11_liesTogether 2 none, Cond.methodLink RX11 166 yX11_marks, Cond.instanceMethod yX11_marks, Cond.selects RX11 yX11_marks yX11_marks, Cond.code yX11_marks cX11_marks 4 none]
def wsL_law_r22 : List Cond := [Cond.methodLink RX11 172 yX11_all, Cond.instanceMethod yX11_all, Cond.selects RX11 yX11_all yX11_all, Cond.code yX11_all cX11_all 1 (some .int), Cond.methodLink RX11 169 yX11_isCluster, Cond.instanceMethod yX11_isCluster, Cond.selects RX11 yX11_isCluster yX11_isCluster, Cond.code yX11_isCluster cX11_isCluster 2 (some .boolean), Cond.methodLink RL 61 yX10_knots, Cond.instanceMethod yX10_knots, Cond.selects RX10 yX10_knots yX10_knots, Cond.code yX10_knots cX10_knots 3 (some .int), Cond.fieldLink RX10 197 "FindOrder$Tree" "size" "I", Cond.methodLink RX10 198 yX9_ofSort, Cond.instanceMethod yX9_ofSort, Cond.selects RX9 yX9_ofSort yX9_ofSort, Cond.code yX9_ofSort cX9_ofSort 4 (some .int), Cond.methodLink RL 64 yX11_knots, Cond.instanceMethod yX11_knots, Cond.selects RX11 yX11_knots yX11_knots, Cond.code yX11_knots cX11_knots 2 (some .int), Cond.fieldLink RX11 178 "FindOrderModel" "knotMany" "I", Cond.methodLink RX11 196 yX11_tellsKnots, Cond.instanceMethod yX11_tellsKnots]
def wsL_law_r23 : List Cond := [Cond.selects RX11 yX11_tellsKnots yX11_tellsKnots, Cond.code yX11_tellsKnots cX11_tellsKnots 3 (some .boolean), Cond.methodLink RX11 181 yX11_bits, Cond.static yX11_bits, Cond.code yX11_bits cX11_bits 3 (some .int), Cond.methodLink RX11 184 yX11_isKnot, Cond.instanceMethod yX11_isKnot, Cond.selects RX11 yX11_isKnot yX11_isKnot, Cond.code yX11_isKnot cX11_isKnot 3 (some .boolean), Cond.methodLink RX11 199 yX11_knotsOf, Cond.instanceMethod yX11_knotsOf, Cond.selects RX11 yX11_knotsOf yX11_knotsOf, Cond.code yX11_knotsOf cX11_knotsOf 4 (some .int), Cond.methodLink RX11 193 yX11_sortOf, Cond.instanceMethod yX11_sortOf, Cond.selects RX11 yX11_sortOf yX11_sortOf, Cond.code yX11_sortOf cX11_sortOf 5 (some .int), Cond.methodLink RX11 190 yX11_childrenOf, Cond.instanceMethod yX11_childrenOf, Cond.selects RX11 yX11_childrenOf yX11_childrenOf, Cond.code yX11_childrenOf cX11_childrenOf 4 (some .int), Cond.methodLink RX11 187 yX11_above, Cond.instanceMethod yX11_above, Cond.selects RX11 yX11_above yX11_above]
def wsL_law_r24 : List Cond := [Cond.code yX11_above cX11_above 3 (some .int), Cond.methodLink RL 65 yX10_knot, Cond.instanceMethod yX10_knot, Cond.selects RX10 yX10_knot yX10_knot, Cond.code yX10_knot cX10_knot 4 (some .int), Cond.fieldLink RX10 201 "FindOrder$Tree" "bits" "[I", Cond.fieldLink RX10 204 "FindOrder$Tree" "sort" "[I", Cond.fieldLink RX10 207 "FindOrder$Tree" "children" "[I", Cond.fieldLink RX10 210 "FindOrder$Tree" "parent" "[I", Cond.methodLink RL 68 yX11_knot, Cond.instanceMethod yX11_knot, Cond.selects RX11 yX11_knot yX11_knot, Cond.code yX11_knot cX11_knot 3 (some .int), Cond.methodLink RL 69 yX10_told, Cond.instanceMethod yX10_told, Cond.selects RX10 yX10_told yX10_told, Cond.code yX10_told cX10_told 1 (some .long), Cond.constantLong RX10 213 (-9223372036854775808), Cond.methodLink RX10 215 yX9_product, Cond.instanceMethod yX9_product, Cond.selects RX9 yX9_product yX9_product, Cond.code yX9_product cX9_product 5 (some .long), Cond.constantLong RX9 78 (2), Cond.methodLink RL 73 yX11_told]
def wsL_law_r25 : List Cond := [Cond.instanceMethod yX11_told, Cond.selects RX11 yX11_told yX11_told, Cond.code yX11_told cX11_told 6 (some .long), Cond.constantLong RX11 202 (-9223372036854775808), Cond.constantLong RX11 204 (2), Cond.methodLink RL 74 yX10_spoils, Cond.instanceMethod yX10_spoils, Cond.selects RX10 yX10_spoils yX10_spoils, Cond.code yX10_spoils cX10_spoils 4 (some .int), Cond.methodLink RX10 219 yX10_spoilingTypes, Cond.instanceMethod yX10_spoilingTypes, Cond.selects RX10 yX10_spoilingTypes yX10_spoilingTypes, Cond.code yX10_spoilingTypes cX10_spoilingTypes 3 (some .int), Cond.methodLink RX10 222 yX10_spoilingGraves, Cond.instanceMethod yX10_spoilingGraves, Cond.selects RX10 yX10_spoilingGraves yX10_spoilingGraves, Cond.code yX10_spoilingGraves cX10_spoilingGraves 3 (some .int), Cond.methodLink RX10 225 yJ6_numberOfTrailingZeros_0f7a4, Cond.methodLink RL 77 yX11_spoils, Cond.instanceMethod yX11_spoils, Cond.selects RX11 yX11_spoils yX11_spoils, Cond.code yX11_spoils cX11_spoils 3 (some .int), Cond.methodLink RX11 206 yX11_isGaplessBy, Cond.instanceMethod yX11_isGaplessBy]
def wsL_law_r26 : List Cond := [Cond.selects RX11 yX11_isGaplessBy yX11_isGaplessBy, Cond.code yX11_isGaplessBy cX11_isGaplessBy 4 (some .boolean), Cond.methodLink RX11 209 yX11_spoilers, Cond.instanceMethod yX11_spoilers, Cond.selects RX11 yX11_spoilers yX11_spoilers, Cond.code yX11_spoilers cX11_spoilers 5 (some .int), Cond.methodLink RX11 212 yX11_least, Cond.static yX11_least, Cond.code yX11_least cX11_least 2 (some .int), Cond.methodLink RL 78 yX10_gaps, Cond.instanceMethod yX10_gaps, Cond.selects RX10 yX10_gaps yX10_gaps, Cond.code yX10_gaps cX10_gaps 2 (some .int), Cond.methodLink RX10 230 yX10_setRow, Cond.instanceMethod yX10_setRow, Cond.selects RX10 yX10_setRow yX10_setRow, Cond.code yX10_setRow cX10_setRow 6 (some .boolean), Cond.methodLink RX10 233 yX10_rowGaps, Cond.instanceMethod yX10_rowGaps, Cond.selects RX10 yX10_rowGaps yX10_rowGaps, Cond.code yX10_rowGaps cX10_rowGaps 3 (some .int), Cond.methodLink RX10 236 yX10_rowGapsOf, Cond.instanceMethod yX10_rowGapsOf, Cond.selects RX10 yX10_rowGapsOf yX10_rowGapsOf]
def wsL_law_r27 : List Cond := [Cond.code yX10_rowGapsOf cX10_rowGapsOf 6 (some .int), Cond.methodLink RL 81 yX11_gaps, Cond.instanceMethod yX11_gaps, Cond.selects RX11 yX11_gaps yX11_gaps, Cond.code yX11_gaps cX11_gaps 2 (some .int), Cond.methodLink RX11 215 yX11_isOrder, Cond.instanceMethod yX11_isOrder, Cond.selects RX11 yX11_isOrder yX11_isOrder, Cond.code yX11_isOrder cX11_isOrder 6 (some .boolean), Cond.methodLink RL 82 yX10_runs, Cond.instanceMethod yX10_runs, Cond.selects RX10 yX10_runs yX10_runs, Cond.code yX10_runs cX10_runs 4 (some .int), Cond.methodLink RL 85 yX11_runs, Cond.instanceMethod yX11_runs, Cond.selects RX11 yX11_runs yX11_runs, Cond.code yX11_runs cX11_runs 4 (some .int), Cond.methodLink RL 86 yX10_kinship, Cond.instanceMethod yX10_kinship, Cond.selects RX10 yX10_kinship yX10_kinship, Cond.code yX10_kinship cX10_kinship 4 (some .int), Cond.methodLink RX10 239 yX5_common, Cond.methodLink RL 89 yX11_kinship, Cond.instanceMethod yX11_kinship]
def wsL_law_r28 : List Cond := [Cond.selects RX11 yX11_kinship yX11_kinship, Cond.code yX11_kinship cX11_kinship 2 (some .int), Cond.methodLink RX11 218 yX11_kinshipNow, Cond.instanceMethod yX11_kinshipNow, Cond.selects RX11 yX11_kinshipNow yX11_kinshipNow, Cond.code yX11_kinshipNow cX11_kinshipNow 3 (some .int), Cond.methodLink RL 90 yX10_kin, Cond.instanceMethod yX10_kin, Cond.selects RX10 yX10_kin yX10_kin, Cond.code yX10_kin cX10_kin 2 (some .int), Cond.fieldLink RX10 245 "FindOrder$Bonds" "greatest" "I", Cond.methodLink RX10 242 yX0_make, Cond.instanceMethod yX0_make, Cond.selects RX0 yX0_make yX0_make, Cond.code yX0_make cX0_make 4 none, Cond.fieldLink RX0 22 "FindOrder$Site" "graves" "I", Cond.fieldLink RX0 30 "FindOrder$Bonds" "greatest" "I", Cond.methodLink RX0 33 Lib.Math.max.name, Cond.static Lib.Math.max.name, Cond.initialized "java/lang/Math", Cond.code Lib.Math.max.name Lib.Math.max.code 2 (some .int), Cond.methodLink RX0 16 yX5_everybody, Cond.methodLink RX0 26 yX0_bestFrom, Cond.instanceMethod yX0_bestFrom]
def wsL_law_r29 : List Cond := [Cond.selects RX0 yX0_bestFrom yX0_bestFrom, Cond.code yX0_bestFrom cX0_bestFrom 6 (some .int), Cond.methodLink RX0 39 yX5_common, Cond.methodLink RX10 248 yX0_firstOrder, Cond.instanceMethod yX0_firstOrder, Cond.selects RX0 yX0_firstOrder yX0_firstOrder, Cond.code yX0_firstOrder cX0_firstOrder 9 (some .int), Cond.methodLink RL 93 yX11_kin, Cond.instanceMethod yX11_kin, Cond.selects RX11 yX11_kin yX11_kin, Cond.code yX11_kin cX11_kin 6 (some .int), Cond.methodLink RL 94 yX10_shared, Cond.instanceMethod yX10_shared, Cond.selects RX10 yX10_shared yX10_shared, Cond.code yX10_shared cX10_shared 3 (some .int), Cond.methodLink RL 97 yX11_shared, Cond.instanceMethod yX11_shared, Cond.selects RX11 yX11_shared yX11_shared, Cond.code yX11_shared cX11_shared 3 (some .int), Cond.methodLink RL 98 yX10_chain, Cond.instanceMethod yX10_chain, Cond.selects RX10 yX10_chain yX10_chain, Cond.code yX10_chain cX10_chain 6 (some .int), Cond.methodLink RX10 252 yX5_nearest]
def wsL_law_r30 : List Cond := [Cond.instanceMethod yX5_nearest, Cond.selects RX5 yX5_nearest yX5_nearest, Cond.code yX5_nearest cX5_nearest 5 (some .int), Cond.methodLink RX5 61 yX5_isNearer, Cond.instanceMethod yX5_isNearer, Cond.selects RX5 yX5_isNearer yX5_isNearer, Cond.code yX5_isNearer cX5_isNearer 5 (some .boolean), Cond.methodLink RL 101 yX11_chain, Cond.instanceMethod yX11_chain, Cond.selects RX11 yX11_chain yX11_chain, Cond.code yX11_chain cX11_chain 8 (some .int), Cond.methodLink RX11 221 yX11_shared, Cond.methodLink RL 102 yX10_walk, Cond.instanceMethod yX10_walk, Cond.selects RX10 yX10_walk yX10_walk, Cond.code yX10_walk cX10_walk 6 (some .int), Cond.methodLink RX10 255 yX5_foremost, Cond.instanceMethod yX5_foremost, Cond.selects RX5 yX5_foremost yX5_foremost, Cond.code yX5_foremost cX5_foremost 7 (some .int), Cond.methodLink RX5 65 yX5_weight, Cond.instanceMethod yX5_weight, Cond.selects RX5 yX5_weight yX5_weight, Cond.code yX5_weight cX5_weight 3 (some .int)]
def wsL_law_r31 : List Cond := [Cond.methodLink RX5 68 yX5_friends, Cond.methodLink RL 105 yX11_walk, Cond.instanceMethod yX11_walk, Cond.selects RX11 yX11_walk yX11_walk, Cond.code yX11_walk cX11_walk 7 (some .int), Cond.methodLink RX11 224 yX11_keyOf, Cond.instanceMethod yX11_keyOf, Cond.selects RX11 yX11_keyOf yX11_keyOf, Cond.code yX11_keyOf cX11_keyOf 3 (some .int), Cond.methodLink RL 106 yX10_turned, Cond.instanceMethod yX10_turned, Cond.selects RX10 yX10_turned yX10_turned, Cond.code yX10_turned cX10_turned 4 (some .int), Cond.methodLink RL 109 yX11_turned, Cond.instanceMethod yX11_turned, Cond.selects RX11 yX11_turned yX11_turned, Cond.code yX11_turned cX11_turned 4 (some .int), Cond.methodLink RL 110 yX10_rank, Cond.instanceMethod yX10_rank, Cond.selects RX10 yX10_rank yX10_rank, Cond.code yX10_rank cX10_rank 2 (some .int), Cond.methodLink RX10 258 yX3_ahead, Cond.instanceMethod yX3_ahead, Cond.selects RX3 yX3_ahead yX3_ahead]
def wsL_law_r32 : List Cond := [Cond.code yX3_ahead cX3_ahead 7 (some .int), Cond.methodLink RL 113 yX11_rank, Cond.instanceMethod yX11_rank, Cond.selects RX11 yX11_rank yX11_rank, Cond.code yX11_rank cX11_rank 3 (some .int), Cond.methodLink RL 114 yX10_swap, Cond.instanceMethod yX10_swap, Cond.selects RX10 yX10_swap yX10_swap, Cond.code yX10_swap cX10_swap 7 (some .int), Cond.methodLink RL 117 yX11_swap, Cond.instanceMethod yX11_swap, Cond.selects RX11 yX11_swap yX11_swap, Cond.code yX11_swap cX11_swap 5 (some .int), Cond.methodLink RL 118 yX10_feed, Cond.instanceMethod yX10_feed, Cond.selects RX10 yX10_feed yX10_feed, Cond.code yX10_feed cX10_feed 2 (some .int), Cond.methodLink RX10 262 yX7_append, Cond.instanceMethod yX7_append, Cond.selects RX7 yX7_append yX7_append, Cond.code yX7_append cX7_append 2 (some .boolean), Cond.fieldLink RX7 15 "FindOrder$Tape" "size" "I", Cond.methodLink RL 121 yX11_feed, Cond.instanceMethod yX11_feed]
def wsL_law_r33 : List Cond := [Cond.selects RX11 yX11_feed yX11_feed, Cond.code yX11_feed cX11_feed 2 (some .int), Cond.methodLink RL 122 yX10_read, Cond.instanceMethod yX10_read, Cond.selects RX10 yX10_read yX10_read, Cond.code yX10_read cX10_read 2 (some .int), Cond.methodLink RX10 265 yX5_become, Cond.instanceMethod yX5_become, Cond.selects RX5 yX5_become yX5_become, Cond.code yX5_become cX5_become 2 none, Cond.methodLink RX5 28 arraycopyName, Cond.native arraycopyName, Cond.static arraycopyName, Cond.initialized "java/lang/System", Cond.methodLink RX10 268 yX7_tellTo, Cond.instanceMethod yX7_tellTo, Cond.selects RX7 yX7_tellTo yX7_tellTo, Cond.code yX7_tellTo cX7_tellTo 3 (some .int), Cond.methodLink RX7 19 yX7_statements, Cond.instanceMethod yX7_statements, Cond.selects RX7 yX7_statements yX7_statements, Cond.code yX7_statements cX7_statements 5 (some .int), Cond.fieldLink RX7 23 "FindOrder$Tape" "at" "I", Cond.fieldLink RX7 30 "FindOrder$Tape" "able" "Z"]
def wsL_law_r34 : List Cond := [Cond.methodLink RX7 26 yX7_statement, Cond.instanceMethod yX7_statement, Cond.selects RX7 yX7_statement yX7_statement, Cond.code yX7_statement cX7_statement 3 (some .boolean), Cond.methodLink RX7 34 yX7_here, Cond.instanceMethod yX7_here, Cond.selects RX7 yX7_here yX7_here, Cond.code yX7_here cX7_here 1 (some .int), Cond.methodLink RX7 38 yX7_correction, Cond.instanceMethod yX7_correction, Cond.selects RX7 yX7_correction yX7_correction, Cond.code yX7_correction cX7_correction 3 (some .boolean), Cond.fieldLink RX7 53 "FindOrder$Tape" "number" "I", Cond.fieldLink RX7 56 "FindOrder$Tape" "word" "I", Cond.methodLink RX7 45 yX7_figures, Cond.instanceMethod yX7_figures, Cond.selects RX7 yX7_figures yX7_figures, Cond.code yX7_figures cX7_figures 4 (some .boolean), Cond.methodLink RX7 49 yX7_letters, Cond.instanceMethod yX7_letters, Cond.selects RX7 yX7_letters yX7_letters, Cond.code yX7_letters cX7_letters 3 (some .boolean), Cond.methodLink RX7 72 yX7_isLetter, Cond.static yX7_isLetter]
def wsL_law_r35 : List Cond := [Cond.code yX7_isLetter cX7_isLetter 1 (some .boolean), Cond.methodLink RX7 59 yX5_named, Cond.instanceMethod yX5_named, Cond.selects RX5 yX5_named yX5_named, Cond.code yX5_named cX5_named 3 (some .int), Cond.methodLink RX7 65 yX5_mark, Cond.methodLink RX7 42 yX7_burial, Cond.instanceMethod yX7_burial, Cond.selects RX7 yX7_burial yX7_burial, Cond.code yX7_burial cX7_burial 5 (some .boolean), Cond.methodLink RX7 69 yX5_dig, Cond.methodLink RX7 75 yX5_owns, Cond.methodLink RL 125 yX11_read, Cond.instanceMethod yX11_read, Cond.selects RX11 yX11_read yX11_read, Cond.code yX11_read cX11_read 4 (some .int), Cond.methodLink RX11 276 yX11_goesThrough, Cond.instanceMethod yX11_goesThrough, Cond.selects RX11 yX11_goesThrough yX11_goesThrough, Cond.code yX11_goesThrough cX11_goesThrough 4 (some .int), Cond.fieldLink RX11 227 "FindOrderModel" "at" "I", Cond.fieldLink RX11 236 "FindOrderModel" "isWrong" "Z", Cond.methodLink RX11 270 yX11_statement, Cond.instanceMethod yX11_statement]
def wsL_law_r36 : List Cond := [Cond.selects RX11 yX11_statement yX11_statement, Cond.code yX11_statement cX11_statement 1 none, Cond.fieldLink RX11 240 "FindOrderModel" "toldMany" "I", Cond.fieldLink RX11 249 "FindOrderModel" "verb" "I", Cond.methodLink RX11 230 yX11_here, Cond.instanceMethod yX11_here, Cond.selects RX11 yX11_here yX11_here, Cond.code yX11_here cX11_here 1 (some .int), Cond.methodLink RX11 258 yX11_graveTold, Cond.instanceMethod yX11_graveTold, Cond.selects RX11 yX11_graveTold yX11_graveTold, Cond.code yX11_graveTold cX11_graveTold 2 none, Cond.methodLink RX11 252 yX11_digits_, Cond.instanceMethod yX11_digits_, Cond.selects RX11 yX11_digits_ yX11_digits_, Cond.code yX11_digits_ cX11_digits_ 3 none, Cond.fieldLink RX11 243 "FindOrderModel" "number" "I", Cond.methodLink RX11 246 yX11_isDigit, Cond.static yX11_isDigit, Cond.code yX11_isDigit cX11_isDigit 1 (some .boolean), Cond.methodLink RX11 233 yX11_isLetter, Cond.static yX11_isLetter, Cond.code yX11_isLetter cX11_isLetter 1 (some .boolean), Cond.methodLink RX11 255 yX11_name]
def wsL_law_r37 : List Cond := [Cond.instanceMethod yX11_name, Cond.selects RX11 yX11_name yX11_name, Cond.code yX11_name cX11_name 3 none, Cond.methodLink RX11 273 yX11_isDone, Cond.instanceMethod yX11_isDone, Cond.selects RX11 yX11_isDone yX11_isDone, Cond.code yX11_isDone cX11_isDone 4 (some .boolean), Cond.methodLink RX11 261 yX11_isTwice, Cond.instanceMethod yX11_isTwice, Cond.selects RX11 yX11_isTwice yX11_isTwice, Cond.code yX11_isTwice cX11_isTwice 3 (some .boolean), Cond.methodLink RX11 264 yX11_typeOf, Cond.instanceMethod yX11_typeOf, Cond.selects RX11 yX11_typeOf yX11_typeOf, Cond.code yX11_typeOf cX11_typeOf 3 (some .int), Cond.methodLink RX11 267 yX11_grave, Cond.methodLink RX11 280 yX11_copies, Cond.static yX11_copies, Cond.code yX11_copies cX11_copies 4 none, Cond.methodLink RL 126 yX10_spell, Cond.instanceMethod yX10_spell, Cond.selects RX10 yX10_spell yX10_spell, Cond.code yX10_spell cX10_spell 1 (some .int), Cond.fieldLink RX10 275 "FindOrder$Sheet" "size" "I"]
def wsL_law_r38 : List Cond := [Cond.methodLink RX10 271 yX10_readySheet, Cond.instanceMethod yX10_readySheet, Cond.selects RX10 yX10_readySheet yX10_readySheet, Cond.code yX10_readySheet cX10_readySheet 1 (some (.object "FindOrder$Sheet")), Cond.methodLink RX10 334 yX4_write, Cond.instanceMethod yX4_write, Cond.selects RX4 yX4_write yX4_write, Cond.code yX4_write cX4_write 3 none, Cond.fieldLink RX4 15 "FindOrder$Sheet" "size" "I", Cond.fieldLink RX4 19 "FindOrder$Site" "graves" "I", Cond.fieldLink RX4 28 "FindOrder$Site" "age" "[I", Cond.methodLink RX4 24 yX4_append, Cond.instanceMethod yX4_append, Cond.selects RX4 yX4_append yX4_append, Cond.code yX4_append cX4_append 2 none, Cond.methodLink RX4 31 yX4_writeAge, Cond.instanceMethod yX4_writeAge, Cond.selects RX4 yX4_writeAge yX4_writeAge, Cond.code yX4_writeAge cX4_writeAge 2 none, Cond.methodLink RX4 34 yX4_writeNames, Cond.instanceMethod yX4_writeNames, Cond.selects RX4 yX4_writeNames yX4_writeNames, Cond.code yX4_writeNames cX4_writeNames 8 none, Cond.fieldLink RX4 42 "FindOrder$Site" "name" "[I"]
def wsL_law_r39 : List Cond := [Cond.methodLink RX4 38 yX5_typeBehind, Cond.instanceMethod yX5_typeBehind, Cond.selects RX5 yX5_typeBehind yX5_typeBehind, Cond.code yX5_typeBehind cX5_typeBehind 5 (some .int), Cond.methodLink RX4 45 yX2_length, Cond.methodLink RX4 51 yX2_letter, Cond.methodLink RL 129 yX11_spell, Cond.instanceMethod yX11_spell, Cond.selects RX11 yX11_spell yX11_spell, Cond.code yX11_spell cX11_spell 1 (some .int), Cond.fieldLink RX11 284 "FindOrderModel" "papered" "I", Cond.methodLink RX11 296 yX11_papers, Cond.instanceMethod yX11_papers, Cond.selects RX11 yX11_papers yX11_papers, Cond.code yX11_papers cX11_papers 2 none, Cond.methodLink RX11 287 yX11_writes, Cond.instanceMethod yX11_writes, Cond.selects RX11 yX11_writes yX11_writes, Cond.code yX11_writes cX11_writes 2 none, Cond.methodLink RX11 293 yX11_writesNames, Cond.instanceMethod yX11_writesNames, Cond.selects RX11 yX11_writesNames yX11_writesNames, Cond.code yX11_writesNames cX11_writesNames 5 none, Cond.methodLink RX11 290 yX11_writesName]
def wsL_law_r40 : List Cond := [Cond.instanceMethod yX11_writesName, Cond.selects RX11 yX11_writesName yX11_writesName, Cond.code yX11_writesName cX11_writesName 3 none, Cond.methodLink RL 130 yX10_paper, Cond.instanceMethod yX10_paper, Cond.selects RX10 yX10_paper yX10_paper, Cond.code yX10_paper cX10_paper 3 (some .int), Cond.fieldLink RX10 276 "FindOrder$Sheet" "bytes" "[I", Cond.methodLink RL 133 yX11_paper, Cond.instanceMethod yX11_paper, Cond.selects RX11 yX11_paper yX11_paper, Cond.code yX11_paper cX11_paper 2 (some .int), Cond.methodLink RL 134 yX10_tray, Cond.instanceMethod yX10_tray, Cond.selects RX10 yX10_tray yX10_tray, Cond.code yX10_tray cX10_tray 3 (some .int), Cond.fieldLink RX10 279 "FindOrder$Tray" "there" "Z", Cond.fieldLink RX10 283 "FindOrder$Tray" "size" "I", Cond.methodLink RL 137 yX11_tray, Cond.instanceMethod yX11_tray, Cond.selects RX11 yX11_tray yX11_tray, Cond.code yX11_tray cX11_tray 3 (some .int), Cond.methodLink RX11 299 yX11_isTray, Cond.static yX11_isTray]
def wsL_law_r41 : List Cond := [Cond.code yX11_isTray cX11_isTray 1 (some .boolean), Cond.methodLink RL 138 yX10_lay, Cond.instanceMethod yX10_lay, Cond.selects RX10 yX10_lay yX10_lay, Cond.code yX10_lay cX10_lay 5 (some .int), Cond.methodLink RX10 284 yX8_add, Cond.instanceMethod yX8_add, Cond.selects RX8 yX8_add yX8_add, Cond.code yX8_add cX8_add 3 none, Cond.fieldLink RX8 18 "FindOrder$Tray" "size" "I", Cond.methodLink RX8 22 yX8_find, Cond.instanceMethod yX8_find, Cond.selects RX8 yX8_find yX8_find, Cond.code yX8_find cX8_find 3 (some .int), Cond.methodLink RL 141 yX11_lay, Cond.instanceMethod yX11_lay, Cond.selects RX11 yX11_lay yX11_lay, Cond.code yX11_lay cX11_lay 4 (some .int), Cond.methodLink RX11 305 yX11_lays, Cond.instanceMethod yX11_lays, Cond.selects RX11 yX11_lays yX11_lays, Cond.code yX11_lays cX11_lays 4 none, Cond.methodLink RX11 302 yX11_placeIn, Cond.instanceMethod yX11_placeIn]
def wsL_law_r42 : List Cond := [Cond.selects RX11 yX11_placeIn yX11_placeIn, Cond.code yX11_placeIn cX11_placeIn 4 (some .int), Cond.methodLink RL 142 yX10_laid, Cond.instanceMethod yX10_laid, Cond.selects RX10 yX10_laid yX10_laid, Cond.code yX10_laid cX10_laid 5 (some .int), Cond.fieldLink RX10 290 "FindOrder$Tray" "counts" "[I", Cond.methodLink RX10 287 yX8_find, Cond.methodLink RL 145 yX11_laid, Cond.instanceMethod yX11_laid, Cond.selects RX11 yX11_laid yX11_laid, Cond.code yX11_laid cX11_laid 4 (some .int), Cond.methodLink RL 146 yX10_list, Cond.instanceMethod yX10_list, Cond.selects RX10 yX10_list yX10_list, Cond.code yX10_list cX10_list 3 (some .int), Cond.methodLink RX10 293 yX1_become, Cond.instanceMethod yX1_become, Cond.selects RX1 yX1_become yX1_become, Cond.code yX1_become cX1_become 3 none, Cond.methodLink RL 149 yX11_list, Cond.instanceMethod yX11_list, Cond.selects RX11 yX11_list yX11_list, Cond.code yX11_list cX11_list 4 (some .int)]
def wsL_law_r43 : List Cond := [Cond.methodLink RX11 308 yX11_isList, Cond.static yX11_isList, Cond.code yX11_isList cX11_isList 1 (some .boolean), Cond.methodLink RL 150 yX10_put, Cond.instanceMethod yX10_put, Cond.selects RX10 yX10_put yX10_put, Cond.code yX10_put cX10_put 5 (some .int), Cond.fieldLink RX10 302 "FindOrder$Items" "values" "[I", Cond.methodLink RX10 295 yX1_isMissing, Cond.instanceMethod yX1_isMissing, Cond.selects RX1 yX1_isMissing yX1_isMissing, Cond.code yX1_isMissing cX1_isMissing 1 (some .boolean), Cond.methodLink RX10 299 yX1_reaches, Cond.instanceMethod yX1_reaches, Cond.selects RX1 yX1_reaches yX1_reaches, Cond.code yX1_reaches cX1_reaches 2 (some .boolean), Cond.methodLink RL 153 yX11_put, Cond.instanceMethod yX11_put, Cond.selects RX11 yX11_put yX11_put, Cond.code yX11_put cX11_put 4 (some .int), Cond.methodLink RL 154 yX10_get, Cond.instanceMethod yX10_get, Cond.selects RX10 yX10_get yX10_get, Cond.code yX10_get cX10_get 3 (some .int)]
def wsL_law_r44 : List Cond := [Cond.constant RX10 305 (-2000000000), Cond.methodLink RL 157 yX11_get, Cond.instanceMethod yX11_get, Cond.selects RX11 yX11_get yX11_get, Cond.code yX11_get cX11_get 3 (some .int), Cond.constant RX11 311 (-2000000000), Cond.methodLink RL 158 yX10_fill, Cond.instanceMethod yX10_fill, Cond.selects RX10 yX10_fill yX10_fill, Cond.code yX10_fill cX10_fill 7 (some .int), Cond.fieldLink RX10 306 "FindOrder$Items" "size" "I", Cond.methodLink RX10 307 Lib.Math.min.name, Cond.static Lib.Math.min.name, Cond.code Lib.Math.min.name Lib.Math.min.code 2 (some .int), Cond.methodLink RX10 312 Lib.Math.max.name, Cond.methodLink RL 161 yX11_fill, Cond.instanceMethod yX11_fill, Cond.selects RX11 yX11_fill yX11_fill, Cond.code yX11_fill cX11_fill 4 (some .int), Cond.methodLink RL 162 yX10_judge, Cond.instanceMethod yX10_judge, Cond.selects RX10 yX10_judge yX10_judge, Cond.code yX10_judge cX10_judge 5 (some .int), Cond.methodLink RX10 315 yX10_passes]
def wsL_law_r45 : List Cond := [Cond.instanceMethod yX10_passes, Cond.selects RX10 yX10_passes yX10_passes, Cond.code yX10_passes cX10_passes 4 (some .boolean), Cond.methodLink RL 165 yX11_judge, Cond.instanceMethod yX11_judge, Cond.selects RX11 yX11_judge yX11_judge, Cond.code yX11_judge cX11_judge 4 (some .int), Cond.methodLink RX11 312 yX11_isSo, Cond.instanceMethod yX11_isSo, Cond.selects RX11 yX11_isSo yX11_isSo, Cond.code yX11_isSo cX11_isSo 4 (some .boolean), Cond.methodLink RL 166 yX10_image, Cond.instanceMethod yX10_image, Cond.selects RX10 yX10_image yX10_image, Cond.code yX10_image cX10_image 1 (some .int), Cond.fieldLink RX10 319 "FindOrder" "hasImage" "Z", Cond.methodLink RL 169 yX11_image, Cond.instanceMethod yX11_image, Cond.selects RX11 yX11_image yX11_image, Cond.code yX11_image cX11_image 1 (some .int), Cond.fieldLink RX11 315 "FindOrderModel" "isKept" "Z", Cond.fieldLink RX11 318 "FindOrderModel" "keptGraves" "I", Cond.fieldLink RX11 321 "FindOrderModel" "keptTypes" "I", Cond.methodLink RL 170 yX10_undo]
def wsL_law_r46 : List Cond := [Cond.instanceMethod yX10_undo, Cond.selects RX10 yX10_undo yX10_undo, Cond.code yX10_undo cX10_undo 1 (some .int), Cond.methodLink RL 173 yX11_undo, Cond.instanceMethod yX11_undo, Cond.selects RX11 yX11_undo yX11_undo, Cond.code yX11_undo cX11_undo 1 (some .int)]
def wsL_law : List Cond := (wsL_law_r1 ++ (wsL_law_r2 ++ (wsL_law_r3 ++ (wsL_law_r4 ++ (wsL_law_r5 ++ (wsL_law_r6 ++ (wsL_law_r7 ++ (wsL_law_r8 ++ (wsL_law_r9 ++ (wsL_law_r10 ++ (wsL_law_r11 ++ (wsL_law_r12 ++ (wsL_law_r13 ++ (wsL_law_r14 ++ (wsL_law_r15 ++ (wsL_law_r16 ++ (wsL_law_r17 ++ (wsL_law_r18 ++ (wsL_law_r19 ++ (wsL_law_r20 ++ (wsL_law_r21 ++ (wsL_law_r22 ++ (wsL_law_r23 ++ (wsL_law_r24 ++ (wsL_law_r25 ++ (wsL_law_r26 ++ (wsL_law_r27 ++ (wsL_law_r28 ++ (wsL_law_r29 ++ (wsL_law_r30 ++ (wsL_law_r31 ++ (wsL_law_r32 ++ (wsL_law_r33 ++ (wsL_law_r34 ++ (wsL_law_r35 ++ (wsL_law_r36 ++ (wsL_law_r37 ++ (wsL_law_r38 ++ (wsL_law_r39 ++ (wsL_law_r40 ++ (wsL_law_r41 ++ (wsL_law_r42 ++ (wsL_law_r43 ++ (wsL_law_r44 ++ (wsL_law_r45 ++ wsL_law_r46))))))))))))))))))))))))))))))))))))))))))))) ++ wsX100 ++ wsX110 ++ wsX50 ++ wsX30 ++ wsX60 ++ wsX00 ++ wsX90 ++ wsX70 ++ wsX40 ++ wsX80 ++ wsX10 ++ ([] : List Cond)
theorem mem_by {big ws : List Cond} (ps : List Nat) (hp : ws = ps.filterMap (fun i => big[i]?)) : ∀ w ∈ ws, w ∈ big := by
  intro w hw
  rw [hp] at hw
  obtain ⟨i, -, hi⟩ := List.mem_filterMap.mp hw
  exact List.mem_of_getElem? hi
set_option maxRecDepth 20000 in
theorem wsL_law_in_1 : ∀ w ∈ wsL_law_r1, w ∈ lw_tbl := mem_by [96, 97, 81, 881, 882, 91, 98, 99, 100, 101, 102, 103, 104, 105, 82, 315, 316, 317, 137, 138, 83, 318, 319, 168] (by decide +kernel)
set_option maxRecDepth 20000 in
theorem wsL_law_in_2 : ∀ w ∈ wsL_law_r2, w ∈ lw_tbl := mem_by [169, 84, 320, 180, 181, 85, 321, 195, 196, 86, 322, 236, 237, 87, 323, 262, 263, 88, 324, 277, 325, 279, 326, 136] (by decide +kernel)
set_option maxRecDepth 20000 in
theorem wsL_law_in_3 : ∀ w ∈ wsL_law_r3, w ∈ lw_tbl := mem_by [327, 281, 89, 301, 90, 107, 108, 109, 116, 119, 122, 140, 141, 142, 143, 144, 145, 146, 171, 172, 173, 174, 176, 183] (by decide +kernel)
set_option maxRecDepth 20000 in
theorem wsL_law_in_4 : ∀ w ∈ wsL_law_r4, w ∈ lw_tbl := mem_by [184, 185, 186, 187, 198, 199, 200, 235, 201, 202, 208, 210, 212, 214, 239, 240, 241, 242, 265, 266, 267, 268, 283, 284] (by decide +kernel)
set_option maxRecDepth 20000 in
theorem wsL_law_in_5 : ∀ w ∈ wsL_law_r5, w ∈ lw_tbl := mem_by [285, 289, 290, 303, 304, 305, 306, 308, 883, 884, 885, 886, 889, 890, 891, 892, 895, 897, 898, 900, 907, 909, 910, 911] (by decide +kernel)
set_option maxRecDepth 20000 in
theorem wsL_law_in_6 : ∀ w ∈ wsL_law_r6, w ∈ lw_tbl := mem_by [913, 914, 915, 916, 917, 918, 922, 923, 924, 370, 371, 372, 373, 374, 375, 376, 377, 110, 378, 380, 0, 381, 330, 331] (by decide +kernel)
set_option maxRecDepth 20000 in
theorem wsL_law_in_7 : ∀ w ∈ wsL_law_r7, w ∈ lw_tbl := mem_by [332, 1004, 1005, 1006, 1007, 887, 1008, 1009, 1010, 382, 383, 384, 385, 386, 387, 388, 389, 390, 391, 392, 393, 114, 394, 395] (by decide +kernel)
set_option maxRecDepth 20000 in
theorem wsL_law_in_8 : ∀ w ∈ wsL_law_r8, w ∈ lw_tbl := mem_by [396, 397, 398, 399, 400, 401, 402, 403, 1011, 1012, 1013, 1014, 1015, 1017, 34, 1018, 1019, 1021, 35, 1022, 888, 404, 405, 406] (by decide +kernel)
set_option maxRecDepth 20000 in
theorem wsL_law_in_9 : ∀ w ∈ wsL_law_r9, w ∈ lw_tbl := mem_by [407, 118, 121, 408, 409, 410, 411, 412, 413, 414, 415, 416, 417, 418, 419, 420, 421, 92, 422, 423, 424, 425, 1023, 1024] (by decide +kernel)
set_option maxRecDepth 20000 in
theorem wsL_law_in_10 : ∀ w ∈ wsL_law_r10, w ∈ lw_tbl := mem_by [1025, 1026, 1027, 1029, 36, 1030, 1031, 1033, 37, 1034, 426, 427, 428, 429, 124, 430, 431, 432, 433, 434, 435, 436, 93, 437] (by decide +kernel)
set_option maxRecDepth 20000 in
theorem wsL_law_in_11 : ∀ w ∈ wsL_law_r11, w ∈ lw_tbl := mem_by [438, 439, 440, 441, 443, 1035, 1036, 1037, 1038, 1039, 1041, 38, 1042, 1043, 1044, 1045, 1046, 1047, 1048, 444, 445, 446, 447, 113] (by decide +kernel)
set_option maxRecDepth 20000 in
theorem wsL_law_in_12 : ∀ w ∈ wsL_law_r12, w ∈ lw_tbl := mem_by [448, 449, 450, 451, 1049, 1050, 1051, 1052, 452, 453, 454, 455, 115, 244, 328, 456, 457, 458, 459, 460, 462, 1, 463, 464] (by decide +kernel)
set_option maxRecDepth 20000 in
theorem wsL_law_in_13 : ∀ w ∈ wsL_law_r13, w ∈ lw_tbl := mem_by [466, 2, 467, 468, 469, 470, 471, 1053, 1054, 1055, 1056, 901, 902, 1057, 1059, 39, 1060, 1061, 1062, 1063, 1064, 1066, 40, 1067] (by decide +kernel)
set_option maxRecDepth 20000 in
theorem wsL_law_in_14 : ∀ w ∈ wsL_law_r14, w ∈ lw_tbl := mem_by [1068, 1070, 41, 1071, 472, 473, 474, 475, 476, 478, 3, 479, 480, 481, 482, 483, 484, 485, 486, 487, 488, 489, 490, 491] (by decide +kernel)
set_option maxRecDepth 20000 in
theorem wsL_law_in_15 : ∀ w ∈ wsL_law_r15, w ∈ lw_tbl := mem_by [149, 151, 152, 120, 492, 493, 494, 495, 496, 497, 499, 4, 500, 501, 502, 503, 504, 505, 506, 507, 508, 509, 510, 511] (by decide +kernel)
set_option maxRecDepth 20000 in
theorem wsL_law_in_16 : ∀ w ∈ wsL_law_r16, w ∈ lw_tbl := mem_by [512, 513, 148, 514, 516, 5, 517, 518, 519, 1072, 1073, 1074, 1075, 1076, 1078, 42, 1079, 1080, 1082, 43, 1083, 893, 894, 1084] (by decide +kernel)
set_option maxRecDepth 20000 in
theorem wsL_law_in_17 : ∀ w ∈ wsL_law_r17, w ∈ lw_tbl := mem_by [1086, 44, 1087, 1088, 1090, 45, 1091, 1092, 1094, 46, 1095, 520, 521, 522, 523, 524, 525, 526, 527, 528, 529, 530, 531, 532] (by decide +kernel)
set_option maxRecDepth 20000 in
theorem wsL_law_in_18 : ∀ w ∈ wsL_law_r18, w ∈ lw_tbl := mem_by [533, 534, 535, 1096, 1097, 1098, 1099, 896, 1100, 1102, 47, 1103, 1104, 1106, 48, 1107, 536, 537, 538, 539, 147, 540, 541, 542] (by decide +kernel)
set_option maxRecDepth 20000 in
theorem wsL_law_in_19 : ∀ w ∈ wsL_law_r19, w ∈ lw_tbl := mem_by [543, 1108, 1109, 1110, 1111, 544, 545, 546, 547, 1112, 1113, 1114, 1115, 548, 549, 550, 551, 205, 552, 554, 6, 555, 556, 557] (by decide +kernel)
set_option maxRecDepth 20000 in
theorem wsL_law_in_20 : ∀ w ∈ wsL_law_r20, w ∈ lw_tbl := mem_by [558, 559, 150, 203, 206, 560, 562, 7, 563, 204, 564, 565, 567, 8, 568, 569, 571, 9, 572, 573, 574, 576, 10, 577] (by decide +kernel)
set_option maxRecDepth 20000 in
theorem wsL_law_in_21 : ∀ w ∈ wsL_law_r21, w ∈ lw_tbl := mem_by [578, 580, 11, 581, 582, 584, 12, 585, 586, 588, 13, 589, 1116, 1117, 1118, 1119, 1120, 1122, 49, 1123, 1124, 1126, 50, 1127] (by decide +kernel)
set_option maxRecDepth 20000 in
theorem wsL_law_in_22 : ∀ w ∈ wsL_law_r22, w ∈ lw_tbl := mem_by [1128, 1130, 51, 1131, 1132, 1134, 52, 1135, 590, 591, 592, 593, 207, 594, 595, 596, 597, 1136, 1137, 1138, 1139, 899, 1140, 1142] (by decide +kernel)
set_option maxRecDepth 20000 in
theorem wsL_law_in_23 : ∀ w ∈ wsL_law_r23, w ∈ lw_tbl := mem_by [53, 1143, 1144, 1145, 1146, 1147, 1149, 54, 1150, 1151, 1153, 55, 1154, 1155, 1157, 56, 1158, 1159, 1161, 57, 1162, 1163, 1165, 58] (by decide +kernel)
set_option maxRecDepth 20000 in
theorem wsL_law_in_24 : ∀ w ∈ wsL_law_r24, w ∈ lw_tbl := mem_by [1166, 598, 599, 600, 601, 209, 211, 213, 215, 1167, 1168, 1169, 1170, 602, 603, 604, 605, 606, 607, 608, 609, 610, 611, 1171] (by decide +kernel)
set_option maxRecDepth 20000 in
theorem wsL_law_in_25 : ∀ w ∈ wsL_law_r25, w ∈ lw_tbl := mem_by [1172, 1173, 1174, 1175, 1176, 612, 613, 614, 615, 616, 618, 14, 619, 620, 622, 15, 623, 624, 1177, 1178, 1179, 1180, 1181, 1183] (by decide +kernel)
set_option maxRecDepth 20000 in
theorem wsL_law_in_26 : ∀ w ∈ wsL_law_r26, w ∈ lw_tbl := mem_by [59, 1184, 1185, 1187, 60, 1188, 1189, 1190, 1191, 625, 626, 627, 628, 629, 631, 16, 632, 633, 635, 17, 636, 637, 639, 18] (by decide +kernel)
set_option maxRecDepth 20000 in
theorem wsL_law_in_27 : ∀ w ∈ wsL_law_r27, w ∈ lw_tbl := mem_by [640, 1192, 1193, 1194, 1195, 1196, 1198, 61, 1199, 641, 642, 643, 644, 1200, 1201, 1202, 1203, 645, 646, 647, 648, 649, 1204, 1205] (by decide +kernel)
set_option maxRecDepth 20000 in
theorem wsL_law_in_28 : ∀ w ∈ wsL_law_r28, w ∈ lw_tbl := mem_by [1206, 1207, 1208, 1210, 62, 1211, 650, 651, 652, 653, 189, 654, 655, 656, 657, 112, 188, 664, 665, 94, 666, 658, 659, 661] (by decide +kernel)
set_option maxRecDepth 20000 in
theorem wsL_law_in_29 : ∀ w ∈ wsL_law_r29, w ∈ lw_tbl := mem_by [19, 662, 663, 667, 668, 669, 670, 1212, 1213, 1214, 1215, 671, 672, 673, 674, 1216, 1217, 1218, 1219, 675, 676, 677, 678, 679] (by decide +kernel)
set_option maxRecDepth 20000 in
theorem wsL_law_in_30 : ∀ w ∈ wsL_law_r30, w ∈ lw_tbl := mem_by [680, 681, 682, 683, 685, 20, 686, 1220, 1221, 1222, 1223, 1224, 687, 688, 689, 690, 691, 692, 693, 694, 695, 697, 21, 698] (by decide +kernel)
set_option maxRecDepth 20000 in
theorem wsL_law_in_31 : ∀ w ∈ wsL_law_r31, w ∈ lw_tbl := mem_by [699, 1225, 1226, 1227, 1228, 1229, 1231, 63, 1232, 700, 701, 702, 703, 1233, 1234, 1235, 1236, 704, 705, 706, 707, 708, 709, 710] (by decide +kernel)
set_option maxRecDepth 20000 in
theorem wsL_law_in_32 : ∀ w ∈ wsL_law_r32, w ∈ lw_tbl := mem_by [711, 1237, 1238, 1239, 1240, 712, 713, 714, 715, 1241, 1242, 1243, 1244, 716, 717, 718, 719, 720, 721, 722, 723, 243, 1245, 1246] (by decide +kernel)
set_option maxRecDepth 20000 in
theorem wsL_law_in_33 : ∀ w ∈ wsL_law_r33, w ∈ lw_tbl := mem_by [1247, 1248, 724, 725, 726, 727, 728, 729, 730, 731, 732, 734, 733, 95, 735, 736, 737, 738, 739, 741, 22, 742, 245, 248] (by decide +kernel)
set_option maxRecDepth 20000 in
theorem wsL_law_in_34 : ∀ w ∈ wsL_law_r34, w ∈ lw_tbl := mem_by [743, 745, 23, 746, 747, 749, 24, 750, 751, 753, 25, 754, 246, 247, 755, 757, 26, 758, 759, 761, 27, 762, 763, 764] (by decide +kernel)
set_option maxRecDepth 20000 in
theorem wsL_law_in_35 : ∀ w ∈ wsL_law_r35, w ∈ lw_tbl := mem_by [765, 766, 767, 768, 769, 770, 771, 773, 28, 774, 775, 776, 1249, 1250, 1251, 1252, 1253, 1255, 64, 1256, 903, 904, 1257, 1259] (by decide +kernel)
set_option maxRecDepth 20000 in
theorem wsL_law_in_36 : ∀ w ∈ wsL_law_r36, w ∈ lw_tbl := mem_by [65, 1260, 908, 905, 1261, 1263, 66, 1264, 1265, 1267, 67, 1268, 1269, 1271, 68, 1272, 906, 1273, 1274, 1275, 1276, 1277, 1278, 1279] (by decide +kernel)
set_option maxRecDepth 20000 in
theorem wsL_law_in_37 : ∀ w ∈ wsL_law_r37, w ∈ lw_tbl := mem_by [1281, 69, 1282, 1283, 1285, 70, 1286, 1287, 1289, 71, 1290, 1291, 1293, 72, 1294, 1295, 1296, 1297, 1298, 777, 778, 779, 780, 271] (by decide +kernel)
set_option maxRecDepth 20000 in
theorem wsL_law_in_38 : ∀ w ∈ wsL_law_r38, w ∈ lw_tbl := mem_by [781, 783, 29, 784, 785, 786, 787, 788, 270, 111, 117, 789, 791, 30, 792, 793, 795, 31, 796, 797, 799, 32, 800, 123] (by decide +kernel)
set_option maxRecDepth 20000 in
theorem wsL_law_in_39 : ∀ w ∈ wsL_law_r39, w ∈ lw_tbl := mem_by [801, 802, 803, 804, 805, 806, 1299, 1300, 1301, 1302, 912, 1303, 1305, 73, 1306, 1307, 1309, 74, 1310, 1311, 1313, 75, 1314, 1315] (by decide +kernel)
set_option maxRecDepth 20000 in
theorem wsL_law_in_40 : ∀ w ∈ wsL_law_r40, w ∈ lw_tbl := mem_by [1317, 76, 1318, 807, 808, 809, 810, 269, 1319, 1320, 1321, 1322, 811, 812, 813, 814, 286, 288, 1323, 1324, 1325, 1326, 1327, 1328] (by decide +kernel)
set_option maxRecDepth 20000 in
theorem wsL_law_in_41 : ∀ w ∈ wsL_law_r41, w ∈ lw_tbl := mem_by [1329, 815, 816, 817, 818, 819, 820, 821, 822, 287, 823, 824, 825, 826, 1330, 1331, 1332, 1333, 1334, 1336, 77, 1337, 1338, 1340] (by decide +kernel)
set_option maxRecDepth 20000 in
theorem wsL_law_in_42 : ∀ w ∈ wsL_law_r42, w ∈ lw_tbl := mem_by [78, 1341, 827, 828, 829, 830, 291, 831, 1342, 1343, 1344, 1345, 832, 833, 834, 835, 836, 837, 838, 839, 1346, 1347, 1348, 1349] (by decide +kernel)
set_option maxRecDepth 20000 in
theorem wsL_law_in_43 : ∀ w ∈ wsL_law_r43, w ∈ lw_tbl := mem_by [1350, 1351, 1352, 840, 841, 842, 843, 309, 844, 845, 846, 847, 848, 849, 850, 851, 1353, 1354, 1355, 1356, 852, 853, 854, 855] (by decide +kernel)
set_option maxRecDepth 20000 in
theorem wsL_law_in_44 : ∀ w ∈ wsL_law_r44, w ∈ lw_tbl := mem_by [856, 1357, 1358, 1359, 1360, 1361, 857, 858, 859, 860, 307, 861, 862, 863, 864, 1362, 1363, 1364, 1365, 865, 866, 867, 868, 869] (by decide +kernel)
set_option maxRecDepth 20000 in
theorem wsL_law_in_45 : ∀ w ∈ wsL_law_r45, w ∈ lw_tbl := mem_by [871, 33, 872, 1366, 1367, 1368, 1369, 1370, 1372, 79, 1373, 873, 874, 875, 876, 329, 1374, 1375, 1376, 1377, 919, 920, 921, 877] (by decide +kernel)
set_option maxRecDepth 20000 in
theorem wsL_law_in_46 : ∀ w ∈ wsL_law_r46, w ∈ lw_tbl := mem_by [878, 879, 880, 1378, 1379, 1380, 1381] (by decide +kernel)
set_option maxRecDepth 20000 in
theorem inX10 : ∀ w ∈ wsX100, w ∈ lw_tbl := mem_by [333, 335, 337, 339, 341, 343, 345, 347, 349, 351, 353, 355, 357, 359, 361, 363, 365, 367] (by decide +kernel)
set_option maxRecDepth 20000 in
theorem inX11 : ∀ w ∈ wsX110, w ∈ lw_tbl := mem_by [925, 927, 929, 931, 933, 935, 937, 939, 941, 943, 945, 947, 949, 951, 953, 955, 957, 959, 961, 963, 965, 967, 969, 971, 973, 975, 977, 979, 981, 983, 985, 987, 989, 991, 993, 995, 997, 999, 1001] (by decide +kernel)
set_option maxRecDepth 20000 in
theorem inX5 : ∀ w ∈ wsX50, w ∈ lw_tbl := mem_by [125, 127, 129, 131, 133] (by decide +kernel)
set_option maxRecDepth 20000 in
theorem inX3 : ∀ w ∈ wsX30, w ∈ lw_tbl := mem_by [153, 155, 157, 159, 161, 163, 165] (by decide +kernel)
set_option maxRecDepth 20000 in
theorem inX6 : ∀ w ∈ wsX60, w ∈ lw_tbl := mem_by [177] (by decide +kernel)
set_option maxRecDepth 20000 in
theorem inX0 : ∀ w ∈ wsX00, w ∈ lw_tbl := mem_by [190, 192] (by decide +kernel)
set_option maxRecDepth 20000 in
theorem inX9 : ∀ w ∈ wsX90, w ∈ lw_tbl := mem_by [216, 218, 220, 222, 224, 226, 228, 230, 232] (by decide +kernel)
set_option maxRecDepth 20000 in
theorem inX7 : ∀ w ∈ wsX70, w ∈ lw_tbl := mem_by [249, 251, 253, 255, 257, 259] (by decide +kernel)
set_option maxRecDepth 20000 in
theorem inX4 : ∀ w ∈ wsX40, w ∈ lw_tbl := mem_by [272, 274] (by decide +kernel)
set_option maxRecDepth 20000 in
theorem inX8 : ∀ w ∈ wsX80, w ∈ lw_tbl := mem_by [292, 294, 296, 298] (by decide +kernel)
set_option maxRecDepth 20000 in
theorem inX1 : ∀ w ∈ wsX10, w ∈ lw_tbl := mem_by [310, 312] (by decide +kernel)
theorem wsL_law_in : ∀ w ∈ wsL_law, w ∈ lw_tbl := fun w => (fun h => (List.mem_append.mp h).elim (fun h => (List.mem_append.mp h).elim (fun h => (List.mem_append.mp h).elim (fun h => (List.mem_append.mp h).elim (fun h => (List.mem_append.mp h).elim (fun h => (List.mem_append.mp h).elim (fun h => (List.mem_append.mp h).elim (fun h => (List.mem_append.mp h).elim (fun h => (List.mem_append.mp h).elim (fun h => (List.mem_append.mp h).elim (fun h => (List.mem_append.mp h).elim (fun h => (List.mem_append.mp h).elim (fun h => (List.mem_append.mp h).elim (wsL_law_in_r1 w) (fun h => (List.mem_append.mp h).elim (wsL_law_in_r2 w) (fun h => (List.mem_append.mp h).elim (wsL_law_in_r3 w) (fun h => (List.mem_append.mp h).elim (wsL_law_in_r4 w) (fun h => (List.mem_append.mp h).elim (wsL_law_in_r5 w) (fun h => (List.mem_append.mp h).elim (wsL_law_in_r6 w) (fun h => (List.mem_append.mp h).elim (wsL_law_in_r7 w) (fun h => (List.mem_append.mp h).elim (wsL_law_in_r8 w) (fun h => (List.mem_append.mp h).elim (wsL_law_in_r9 w) (fun h => (List.mem_append.mp h).elim (wsL_law_in_r10 w) (fun h => (List.mem_append.mp h).elim (wsL_law_in_r11 w) (fun h => (List.mem_append.mp h).elim (wsL_law_in_r12 w) (fun h => (List.mem_append.mp h).elim (wsL_law_in_r13 w) (fun h => (List.mem_append.mp h).elim (wsL_law_in_r14 w) (fun h => (List.mem_append.mp h).elim (wsL_law_in_r15 w) (fun h => (List.mem_append.mp h).elim (wsL_law_in_r16 w) (fun h => (List.mem_append.mp h).elim (wsL_law_in_r17 w) (fun h => (List.mem_append.mp h).elim (wsL_law_in_r18 w) (fun h => (List.mem_append.mp h).elim (wsL_law_in_r19 w) (fun h => (List.mem_append.mp h).elim (wsL_law_in_r20 w) (fun h => (List.mem_append.mp h).elim (wsL_law_in_r21 w) (fun h => (List.mem_append.mp h).elim (wsL_law_in_r22 w) (fun h => (List.mem_append.mp h).elim (wsL_law_in_r23 w) (fun h => (List.mem_append.mp h).elim (wsL_law_in_r24 w) (fun h => (List.mem_append.mp h).elim (wsL_law_in_r25 w) (fun h => (List.mem_append.mp h).elim (wsL_law_in_r26 w) (fun h => (List.mem_append.mp h).elim (wsL_law_in_r27 w) (fun h => (List.mem_append.mp h).elim (wsL_law_in_r28 w) (fun h => (List.mem_append.mp h).elim (wsL_law_in_r29 w) (fun h => (List.mem_append.mp h).elim (wsL_law_in_r30 w) (fun h => (List.mem_append.mp h).elim (wsL_law_in_r31 w) (fun h => (List.mem_append.mp h).elim (wsL_law_in_r32 w) (fun h => (List.mem_append.mp h).elim (wsL_law_in_r33 w) (fun h => (List.mem_append.mp h).elim (wsL_law_in_r34 w) (fun h => (List.mem_append.mp h).elim (wsL_law_in_r35 w) (fun h => (List.mem_append.mp h).elim (wsL_law_in_r36 w) (fun h => (List.mem_append.mp h).elim (wsL_law_in_r37 w) (fun h => (List.mem_append.mp h).elim (wsL_law_in_r38 w) (fun h => (List.mem_append.mp h).elim (wsL_law_in_r39 w) (fun h => (List.mem_append.mp h).elim (wsL_law_in_r40 w) (fun h => (List.mem_append.mp h).elim (wsL_law_in_r41 w) (fun h => (List.mem_append.mp h).elim (wsL_law_in_r42 w) (fun h => (List.mem_append.mp h).elim (wsL_law_in_r43 w) (fun h => (List.mem_append.mp h).elim (wsL_law_in_r44 w) (fun h => (List.mem_append.mp h).elim (wsL_law_in_r45 w) (fun h => wsL_law_in_r46 w h)))))))))))))))))))))))))))))))))))))))))))))) (inX10 w)) (inX11 w)) (inX5 w)) (inX3 w)) (inX6 w)) (inX0 w)) (inX9 w)) (inX7 w)) (inX4 w)) (inX8 w)) (inX1 w)) (fun h => absurd h List.not_mem_nil))
set_option maxRecDepth 20000 in
theorem ggL_law_X10_init : GoodIn wsL_law wsX10_init := goodIn_r _ [8, 9, 10, 11, 12, 13, 14, 15, 16, 17, 18, 19, 20, 21, 22, 23, 24, 25, 26, 27, 28, 29, 30, 31, 32, 33, 34, 35, 36, 37, 38, 39, 40, 41, 42, 43, 44, 45, 46, 47, 48, 49, 50, 51, 52, 53, 54, 55, 56, 57, 58, 59, 60, 61, 62, 63, 64, 65, 66, 67, 68, 69, 70, 71, 72, 73, 74, 75, 76, 77, 78, 79, 80, 81, 82, 83, 84, 85, 86, 87, 88, 89, 90, 91, 92, 93, 94, 95, 96, 97, 98, 99, 100, 101, 102, 103, 1144, 1145, 1146, 1147, 1148, 1087, 1088, 1089, 1090, 1091, 1092, 1093, 1094, 1095, 1096, 1097, 1098, 1099, 1100, 1101, 1102, 1103, 1104, 1149, 1150, 1151, 1152, 1153, 1154, 1155, 1156, 1157, 1158, 1159, 1160, 1161, 1162, 1163, 1164, 1165, 1166, 1167, 1168, 1169, 1170, 1171, 1172, 1173, 1174, 1175, 1176, 1177, 1178, 1179, 1180, 1181] (by decide +kernel) (by decide +kernel)
set_option maxRecDepth 20000 in
theorem gL_law_X10_init : GoodIn wsL_law (wsX10_init) := ggL_law_X10_init
set_option maxRecDepth 20000 in
theorem ggL_law_X11_init : GoodIn wsL_law wsX11_init := goodIn_r _ [106, 107, 10, 11, 47, 108, 109, 110, 111, 112, 113, 114, 115, 116, 117, 118, 119, 79, 120, 121, 122, 123, 124, 125, 126, 127, 128, 1105, 1106, 1107, 1108, 1109, 1110, 1111, 1112, 1113, 1114, 1115, 1116, 1117, 1118, 1119, 1120, 1121, 1122, 1123, 1124, 1125, 1126, 1127, 1128, 1129, 1130, 1131, 1132, 1133, 1134, 1135, 1136, 1137, 1138, 1139, 1140, 1141, 1142, 1143] (by decide +kernel) (by decide +kernel)
set_option maxRecDepth 20000 in
theorem gL_law_X11_init : GoodIn wsL_law (wsX11_init) := ggL_law_X11_init
set_option maxRecDepth 20000 in
theorem ggL_law_X10_grave : GoodIn wsL_law wsX10_grave := goodIn_r _ [132, 15, 133, 134, 135, 14, 136, 137, 56, 57, 138, 139, 140, 2, 141, 142, 143, 144, 1087, 1088, 1089, 1090, 1091, 1092, 1093, 1094, 1095, 1096, 1097, 1098, 1099, 1100, 1101, 1102, 1103, 1104, 1144, 1145, 1146, 1147, 1148] (by decide +kernel) (by decide +kernel)
set_option maxRecDepth 20000 in
theorem gL_law_X10_grave : GoodIn wsL_law (wsV RL 13 RX10 yX10_grave wsX10_grave) := goodIn_app (goodIn_of _ (by decide +kernel)) ggL_law_X10_grave
set_option maxRecDepth 20000 in
theorem ggL_law_X11_grave : GoodIn wsL_law wsX11_grave := goodIn_r _ [148, 149, 108, 109, 150, 151, 5, 152, 1105, 1106, 1107, 1108, 1109, 1110, 1111, 1112, 1113, 1114, 1115, 1116, 1117, 1118, 1119, 1120, 1121, 1122, 1123, 1124, 1125, 1126, 1127, 1128, 1129, 1130, 1131, 1132, 1133, 1134, 1135, 1136, 1137, 1138, 1139, 1140, 1141, 1142, 1143] (by decide +kernel) (by decide +kernel)
set_option maxRecDepth 20000 in
theorem gL_law_X11_grave : GoodIn wsL_law (wsV RL 17 RX11 yX11_grave wsX11_grave) := goodIn_app (goodIn_of _ (by decide +kernel)) ggL_law_X11_grave
set_option maxRecDepth 20000 in
theorem ggL_law_X10_has : GoodIn wsL_law wsX10_has := goodIn_r _ [156, 15, 157, 158, 159, 14, 160, 137, 161, 162, 163, 164, 165, 166, 167, 168, 169, 57, 170, 171, 172, 173, 174, 175, 138, 139, 140, 2, 141, 142, 143, 144, 1087, 1088, 1089, 1090, 1091, 1092, 1093, 1094, 1095, 1096, 1097, 1098, 1099, 1100, 1101, 1102, 1103, 1104, 1144, 1145, 1146, 1147, 1148] (by decide +kernel) (by decide +kernel)
set_option maxRecDepth 20000 in
theorem gL_law_X10_has : GoodIn wsL_law (wsV RL 18 RX10 yX10_has wsX10_has) := goodIn_app (goodIn_of _ (by decide +kernel)) ggL_law_X10_has
set_option maxRecDepth 20000 in
theorem ggL_law_X11_has_ : GoodIn wsL_law wsX11_has_ := goodIn_r _ [179, 109, 180, 181, 182, 5, 183, 149, 150, 151, 152, 184, 185, 186, 187, 188, 1105, 1106, 1107, 1108, 1109, 1110, 1111, 1112, 1113, 1114, 1115, 1116, 1117, 1118, 1119, 1120, 1121, 1122, 1123, 1124, 1125, 1126, 1127, 1128, 1129, 1130, 1131, 1132, 1133, 1134, 1135, 1136, 1137, 1138, 1139, 1140, 1141, 1142, 1143] (by decide +kernel) (by decide +kernel)
set_option maxRecDepth 20000 in
theorem gL_law_X11_has_ : GoodIn wsL_law (wsV RL 22 RX11 yX11_has_ wsX11_has_) := goodIn_app (goodIn_of _ (by decide +kernel)) ggL_law_X11_has_
set_option maxRecDepth 20000 in
theorem ggL_law_X10_of : GoodIn wsL_law wsX10_of := goodIn_r _ [192, 15, 193, 194, 157, 158, 159, 14, 160, 137, 195, 196, 197, 198, 57, 56, 199, 200, 201, 202, 203, 204, 205, 206, 170, 207, 208, 209, 210, 211, 212, 213, 1087, 1088, 1089, 1090, 1091, 1092, 1093, 1094, 1095, 1096, 1097, 1098, 1099, 1100, 1101, 1102, 1103, 1104, 1144, 1145, 1146, 1147, 1148] (by decide +kernel) (by decide +kernel)
set_option maxRecDepth 20000 in
theorem gL_law_X10_of : GoodIn wsL_law (wsV RL 23 RX10 yX10_of wsX10_of) := goodIn_app (goodIn_of _ (by decide +kernel)) ggL_law_X10_of
set_option maxRecDepth 20000 in
theorem ggL_law_X11_of : GoodIn wsL_law wsX11_of := goodIn_r _ [217, 108, 109, 180, 181, 182, 5, 183, 149, 150, 151, 152, 218, 219, 220, 221, 222, 223, 224, 225, 1105, 1106, 1107, 1108, 1109, 1110, 1111, 1112, 1113, 1114, 1115, 1116, 1117, 1118, 1119, 1120, 1121, 1122, 1123, 1124, 1125, 1126, 1127, 1128, 1129, 1130, 1131, 1132, 1133, 1134, 1135, 1136, 1137, 1138, 1139, 1140, 1141, 1142, 1143] (by decide +kernel) (by decide +kernel)
set_option maxRecDepth 20000 in
theorem gL_law_X11_of : GoodIn wsL_law (wsV RL 27 RX11 yX11_of wsX11_of) := goodIn_app (goodIn_of _ (by decide +kernel)) ggL_law_X11_of
set_option maxRecDepth 20000 in
theorem ggL_law_X10_type : GoodIn wsL_law wsX10_type := goodIn_r _ [229, 15, 230, 161, 162, 163, 14, 164, 165, 231, 232, 233, 234, 137, 235, 167, 168, 169, 57, 170, 158, 159, 160, 236, 237, 238, 239, 240, 241, 242, 243, 244, 1087, 1088, 1089, 1090, 1091, 1092, 1093, 1094, 1095, 1096, 1097, 1098, 1099, 1100, 1101, 1102, 1103, 1104, 1144, 1145, 1146, 1147, 1148] (by decide +kernel) (by decide +kernel)
set_option maxRecDepth 20000 in
theorem gL_law_X10_type : GoodIn wsL_law (wsV RL 28 RX10 yX10_type wsX10_type) := goodIn_app (goodIn_of _ (by decide +kernel)) ggL_law_X10_type
set_option maxRecDepth 20000 in
theorem ggL_law_X11_type : GoodIn wsL_law wsX11_type := goodIn_r _ [248, 110, 184, 185, 186, 5, 187, 188, 150, 151, 152, 249, 250, 251, 252, 149, 109, 253, 254, 255, 256, 257, 258, 1105, 1106, 1107, 1108, 1109, 1110, 1111, 1112, 1113, 1114, 1115, 1116, 1117, 1118, 1119, 1120, 1121, 1122, 1123, 1124, 1125, 1126, 1127, 1128, 1129, 1130, 1131, 1132, 1133, 1134, 1135, 1136, 1137, 1138, 1139, 1140, 1141, 1142, 1143] (by decide +kernel) (by decide +kernel)
set_option maxRecDepth 20000 in
theorem gL_law_X11_type : GoodIn wsL_law (wsV RL 31 RX11 yX11_type wsX11_type) := goodIn_app (goodIn_of _ (by decide +kernel)) ggL_law_X11_type
set_option maxRecDepth 20000 in
theorem ggL_law_X10_drop : GoodIn wsL_law wsX10_drop := goodIn_r _ [262, 15, 263, 157, 158, 159, 14, 160, 137, 264, 265, 266, 267, 56, 57, 138, 139, 140, 2, 141, 142, 143, 144, 1087, 1088, 1089, 1090, 1091, 1092, 1093, 1094, 1095, 1096, 1097, 1098, 1099, 1100, 1101, 1102, 1103, 1104, 1144, 1145, 1146, 1147, 1148] (by decide +kernel) (by decide +kernel)
set_option maxRecDepth 20000 in
theorem gL_law_X10_drop : GoodIn wsL_law (wsV RL 32 RX10 yX10_drop wsX10_drop) := goodIn_app (goodIn_of _ (by decide +kernel)) ggL_law_X10_drop
set_option maxRecDepth 20000 in
theorem ggL_law_X11_drop : GoodIn wsL_law wsX11_drop := goodIn_r _ [271, 149, 108, 109, 180, 181, 182, 5, 183, 150, 151, 152, 1105, 1106, 1107, 1108, 1109, 1110, 1111, 1112, 1113, 1114, 1115, 1116, 1117, 1118, 1119, 1120, 1121, 1122, 1123, 1124, 1125, 1126, 1127, 1128, 1129, 1130, 1131, 1132, 1133, 1134, 1135, 1136, 1137, 1138, 1139, 1140, 1141, 1142, 1143] (by decide +kernel) (by decide +kernel)
set_option maxRecDepth 20000 in
theorem gL_law_X11_drop : GoodIn wsL_law (wsV RL 35 RX11 yX11_drop wsX11_drop) := goodIn_app (goodIn_of _ (by decide +kernel)) ggL_law_X11_drop
set_option maxRecDepth 20000 in
theorem ggL_law_X10_count : GoodIn wsL_law wsX10_count := goodIn_r _ [275, 15, 263, 276, 38, 277, 278, 279, 280, 281, 14, 282, 137, 283, 284, 285, 286, 287, 288, 289, 290, 203, 204, 205, 206, 57, 170, 158, 159, 160, 207, 208, 209, 210, 211, 212, 213, 291, 292, 293, 294, 1087, 1088, 1089, 1090, 1091, 1092, 1093, 1094, 1095, 1096, 1097, 1098, 1099, 1100, 1101, 1102, 1103, 1104, 1144, 1145, 1146, 1147, 1148, 1168, 1169, 1170, 1171, 1172, 1173] (by decide +kernel) (by decide +kernel)
set_option maxRecDepth 20000 in
theorem gL_law_X10_count : GoodIn wsL_law (wsV RL 36 RX10 yX10_count wsX10_count) := goodIn_app (goodIn_of _ (by decide +kernel)) ggL_law_X10_count
set_option maxRecDepth 20000 in
theorem ggL_law_X11_count : GoodIn wsL_law wsX11_count := goodIn_r _ [298, 149, 188, 299, 300, 301, 302, 303, 5, 304, 305, 306, 307, 308, 309, 310, 311, 109, 312, 313, 314, 315, 1105, 1106, 1107, 1108, 1109, 1110, 1111, 1112, 1113, 1114, 1115, 1116, 1117, 1118, 1119, 1120, 1121, 1122, 1123, 1124, 1125, 1126, 1127, 1128, 1129, 1130, 1131, 1132, 1133, 1134, 1135, 1136, 1137, 1138, 1139, 1140, 1141, 1142, 1143] (by decide +kernel) (by decide +kernel)
set_option maxRecDepth 20000 in
theorem gL_law_X11_count : GoodIn wsL_law (wsV RL 39 RX11 yX11_count wsX11_count) := goodIn_app (goodIn_of _ (by decide +kernel)) ggL_law_X11_count
set_option maxRecDepth 20000 in
theorem ggL_law_X10_orders : GoodIn wsL_law wsX10_orders := goodIn_r _ [319, 26, 320, 321, 322, 2, 323, 142, 21, 15, 324, 325, 326, 14, 327, 137, 328, 329, 330, 331, 165, 332, 333, 334, 20, 335, 336, 337, 338, 62, 339, 63, 340, 158, 159, 160, 341, 342, 209, 343, 344, 345, 346, 347, 348, 64, 65, 349, 350, 351, 352, 353, 354, 355, 356, 357, 208, 210, 211, 212, 213, 358, 359, 360, 25, 361, 362, 70, 363, 364, 365, 366, 367, 368, 1087, 1088, 1089, 1090, 1091, 1092, 1093, 1094, 1095, 1096, 1097, 1098, 1099, 1100, 1101, 1102, 1103, 1104, 1144, 1145, 1146, 1147, 1148, 1149, 1150, 1151, 1152, 1153, 1154, 1155, 1156] (by decide +kernel) (by decide +kernel)
set_option maxRecDepth 20000 in
theorem gL_law_X10_orders : GoodIn wsL_law (wsV RL 40 RX10 yX10_orders wsX10_orders) := goodIn_app (goodIn_of _ (by decide +kernel)) ggL_law_X10_orders
set_option maxRecDepth 20000 in
theorem ggL_law_X11_orders : GoodIn wsL_law wsX11_orders := goodIn_r _ [372, 150, 151, 5, 152, 373, 374, 375, 376, 188, 377, 378, 379, 380, 381, 149, 111, 382, 383, 384, 385, 386, 305, 306, 307, 387, 388, 389, 390, 109, 391, 392, 393, 394, 1105, 1106, 1107, 1108, 1109, 1110, 1111, 1112, 1113, 1114, 1115, 1116, 1117, 1118, 1119, 1120, 1121, 1122, 1123, 1124, 1125, 1126, 1127, 1128, 1129, 1130, 1131, 1132, 1133, 1134, 1135, 1136, 1137, 1138, 1139, 1140, 1141, 1142, 1143] (by decide +kernel) (by decide +kernel)
set_option maxRecDepth 20000 in
theorem gL_law_X11_orders : GoodIn wsL_law (wsV RL 43 RX11 yX11_orders wsX11_orders) := goodIn_app (goodIn_of _ (by decide +kernel)) ggL_law_X11_orders
set_option maxRecDepth 20000 in
theorem ggL_law_X10_gapless : GoodIn wsL_law wsX10_gapless := goodIn_r _ [398, 320, 321, 322, 2, 323, 142, 21, 15, 324, 325, 326, 14, 327, 137, 328, 329, 330, 331, 165, 332, 333, 334, 20, 335, 336, 337, 338, 62, 339, 63, 340, 158, 159, 160, 341, 342, 209, 343, 344, 345, 346, 347, 348, 64, 65, 349, 350, 351, 352, 353, 354, 355, 356, 357, 208, 210, 211, 212, 213, 399, 400, 401, 402, 403, 404, 405, 406, 407, 408, 409, 410, 1087, 1088, 1089, 1090, 1091, 1092, 1093, 1094, 1095, 1096, 1097, 1098, 1099, 1100, 1101, 1102, 1103, 1104, 1144, 1145, 1146, 1147, 1148, 1149, 1150, 1151, 1152, 1153, 1154, 1155] (by decide +kernel) (by decide +kernel)
set_option maxRecDepth 20000 in
theorem gL_law_X10_gapless : GoodIn wsL_law (wsV RL 44 RX10 yX10_gapless wsX10_gapless) := goodIn_app (goodIn_of _ (by decide +kernel)) ggL_law_X10_gapless
set_option maxRecDepth 20000 in
theorem ggL_law_X11_gapless : GoodIn wsL_law wsX11_gapless := goodIn_r _ [414, 415, 112, 416, 417, 418, 5, 419, 373, 374, 375, 376, 188, 377, 378, 379, 380, 381, 149, 111, 382, 383, 384, 385, 386, 305, 306, 307, 387, 388, 389, 390, 109, 420, 421, 422, 423, 391, 392, 393, 394, 150, 151, 152, 1105, 1106, 1107, 1108, 1109, 1110, 1111, 1112, 1113, 1114, 1115, 1116, 1117, 1118, 1119, 1120, 1121, 1122, 1123, 1124, 1125, 1126, 1127, 1128, 1129, 1130, 1131, 1132, 1133, 1134, 1135, 1136, 1137, 1138, 1139, 1140, 1141, 1142, 1143] (by decide +kernel) (by decide +kernel)
set_option maxRecDepth 20000 in
theorem gL_law_X11_gapless : GoodIn wsL_law (wsV RL 47 RX11 yX11_gapless wsX11_gapless) := goodIn_app (goodIn_of _ (by decide +kernel)) ggL_law_X11_gapless
set_option maxRecDepth 20000 in
theorem ggL_law_X10_fewest : GoodIn wsL_law wsX10_fewest := goodIn_r _ [427, 428, 320, 321, 322, 2, 323, 142, 21, 15, 324, 325, 326, 14, 327, 137, 328, 329, 330, 331, 165, 332, 333, 334, 20, 335, 336, 337, 338, 62, 339, 63, 340, 158, 159, 160, 341, 342, 209, 343, 344, 345, 346, 347, 348, 64, 65, 349, 350, 351, 352, 353, 354, 355, 356, 357, 208, 210, 211, 212, 213, 429, 430, 431, 432, 403, 404, 405, 406, 407, 408, 409, 410, 1149, 1150, 1151, 1152, 1153, 1154, 1155, 1087, 1088, 1089, 1090, 1091, 1092, 1093, 1094, 1095, 1096, 1097, 1098, 1099, 1100, 1101, 1102, 1103, 1104, 1144, 1145, 1146, 1147, 1148] (by decide +kernel) (by decide +kernel)
set_option maxRecDepth 20000 in
theorem gL_law_X10_fewest : GoodIn wsL_law (wsV RL 48 RX10 yX10_fewest wsX10_fewest) := goodIn_app (goodIn_of _ (by decide +kernel)) ggL_law_X10_fewest
set_option maxRecDepth 20000 in
theorem ggL_law_X11_fewest : GoodIn wsL_law wsX11_fewest := goodIn_r _ [436, 150, 151, 5, 152, 373, 374, 375, 376, 188, 377, 378, 379, 380, 381, 149, 111, 382, 383, 384, 385, 386, 305, 306, 307, 387, 388, 389, 390, 109, 420, 421, 422, 423, 391, 392, 393, 394, 1105, 1106, 1107, 1108, 1109, 1110, 1111, 1112, 1113, 1114, 1115, 1116, 1117, 1118, 1119, 1120, 1121, 1122, 1123, 1124, 1125, 1126, 1127, 1128, 1129, 1130, 1131, 1132, 1133, 1134, 1135, 1136, 1137, 1138, 1139, 1140, 1141, 1142, 1143] (by decide +kernel) (by decide +kernel)
set_option maxRecDepth 20000 in
theorem gL_law_X11_fewest : GoodIn wsL_law (wsV RL 51 RX11 yX11_fewest wsX11_fewest) := goodIn_app (goodIn_of _ (by decide +kernel)) ggL_law_X11_fewest
set_option maxRecDepth 20000 in
theorem ggL_law_X10_ends : GoodIn wsL_law wsX10_ends := goodIn_r _ [440, 15, 263, 22, 157, 158, 159, 14, 160, 137, 324, 325, 326, 327, 328, 329, 330, 331, 165, 332, 333, 334, 20, 335, 336, 337, 338, 62, 339, 63, 340, 341, 342, 209, 343, 344, 345, 346, 347, 348, 64, 65, 349, 350, 351, 352, 353, 354, 355, 356, 357, 208, 210, 211, 212, 213, 399, 400, 401, 402, 429, 430, 431, 432, 403, 404, 405, 406, 407, 408, 409, 410, 1087, 1088, 1089, 1090, 1091, 1092, 1093, 1094, 1095, 1096, 1097, 1098, 1099, 1100, 1101, 1102, 1103, 1104, 1144, 1145, 1146, 1147, 1148, 1149, 1150, 1151, 1152, 1153, 1154, 1155] (by decide +kernel) (by decide +kernel)
set_option maxRecDepth 20000 in
theorem gL_law_X10_ends : GoodIn wsL_law (wsV RL 52 RX10 yX10_ends wsX10_ends) := goodIn_app (goodIn_of _ (by decide +kernel)) ggL_law_X10_ends
set_option maxRecDepth 20000 in
theorem ggL_law_X11_ends : GoodIn wsL_law wsX11_ends := goodIn_r _ [444, 149, 111, 381, 180, 181, 182, 5, 183, 150, 151, 152, 373, 374, 375, 376, 188, 377, 378, 379, 380, 382, 383, 384, 385, 386, 305, 306, 307, 387, 388, 389, 390, 109, 420, 421, 422, 423, 391, 392, 393, 394, 1105, 1106, 1107, 1108, 1109, 1110, 1111, 1112, 1113, 1114, 1115, 1116, 1117, 1118, 1119, 1120, 1121, 1122, 1123, 1124, 1125, 1126, 1127, 1128, 1129, 1130, 1131, 1132, 1133, 1134, 1135, 1136, 1137, 1138, 1139, 1140, 1141, 1142, 1143] (by decide +kernel) (by decide +kernel)
set_option maxRecDepth 20000 in
theorem gL_law_X11_ends : GoodIn wsL_law (wsV RL 55 RX11 yX11_ends wsX11_ends) := goodIn_app (goodIn_of _ (by decide +kernel)) ggL_law_X11_ends
set_option maxRecDepth 20000 in
theorem ggL_law_X10_clusters : GoodIn wsL_law wsX10_clusters := goodIn_r _ [448, 449, 320, 321, 322, 2, 323, 142, 21, 15, 324, 325, 326, 14, 327, 137, 328, 329, 330, 331, 165, 332, 333, 334, 20, 335, 336, 337, 338, 62, 339, 63, 340, 158, 159, 160, 341, 342, 209, 343, 344, 345, 346, 347, 348, 64, 65, 349, 350, 351, 352, 353, 354, 355, 356, 357, 208, 210, 211, 212, 213, 429, 430, 431, 432, 450, 451, 452, 453, 143, 34, 454, 455, 456, 33, 457, 458, 459, 460, 84, 85, 83, 461, 462, 463, 464, 80, 81, 465, 466, 408, 409, 410, 467, 468, 469, 470, 471, 472, 473, 474, 82, 475, 476, 477, 478, 479, 480, 481, 482, 483, 484, 485, 486, 487, 488, 489, 490, 491, 1159, 1160, 1161, 1162, 1163, 1164, 1165, 1166, 1167, 1087, 1088, 1089, 1090, 1091, 1092, 1093, 1094, 1095, 1096, 1097, 1098, 1099, 1100, 1101, 1102, 1103, 1104, 1144, 1145, 1146, 1147, 1148, 1149, 1150, 1151, 1152, 1153, 1154, 1155] (by decide +kernel) (by decide +kernel)
set_option maxRecDepth 20000 in
theorem gL_law_X10_clusters : GoodIn wsL_law (wsV RL 56 RX10 yX10_clusters wsX10_clusters) := goodIn_app (goodIn_of _ (by decide +kernel)) ggL_law_X10_clusters
set_option maxRecDepth 20000 in
theorem ggL_law_X11_clusters : GoodIn wsL_law wsX11_clusters := goodIn_r _ [495, 415, 496, 497, 498, 5, 499, 113, 373, 374, 375, 376, 188, 377, 378, 379, 380, 381, 149, 111, 382, 383, 384, 385, 386, 305, 306, 307, 387, 388, 389, 390, 109, 500, 501, 502, 503, 391, 392, 393, 394, 504, 505, 506, 507, 508, 509, 510, 511, 1105, 1106, 1107, 1108, 1109, 1110, 1111, 1112, 1113, 1114, 1115, 1116, 1117, 1118, 1119, 1120, 1121, 1122, 1123, 1124, 1125, 1126, 1127, 1128, 1129, 1130, 1131, 1132, 1133, 1134, 1135, 1136, 1137, 1138, 1139, 1140, 1141, 1142, 1143] (by decide +kernel) (by decide +kernel)
set_option maxRecDepth 20000 in
theorem gL_law_X11_clusters : GoodIn wsL_law (wsV RL 60 RX11 yX11_clusters wsX11_clusters) := goodIn_app (goodIn_of _ (by decide +kernel)) ggL_law_X11_clusters
set_option maxRecDepth 20000 in
theorem ggL_law_X10_knots : GoodIn wsL_law wsX10_knots := goodIn_r _ [515, 516, 320, 321, 322, 2, 323, 142, 21, 15, 324, 325, 326, 14, 327, 137, 328, 329, 330, 331, 165, 332, 333, 334, 20, 335, 336, 337, 338, 62, 339, 63, 340, 158, 159, 160, 341, 342, 209, 343, 344, 345, 346, 347, 348, 64, 65, 349, 350, 351, 352, 353, 354, 355, 356, 357, 208, 210, 211, 212, 213, 429, 430, 431, 432, 450, 451, 452, 453, 143, 34, 454, 455, 456, 33, 457, 458, 459, 460, 84, 85, 83, 461, 462, 463, 464, 80, 81, 465, 466, 408, 409, 410, 467, 468, 469, 470, 471, 472, 473, 474, 82, 475, 476, 477, 478, 479, 480, 481, 482, 483, 484, 485, 486, 487, 488, 489, 490, 491, 517, 518, 519, 520, 1159, 1160, 1161, 1162, 1163, 1164, 1165, 1166, 1167, 1087, 1088, 1089, 1090, 1091, 1092, 1093, 1094, 1095, 1096, 1097, 1098, 1099, 1100, 1101, 1102, 1103, 1104, 1144, 1145, 1146, 1147, 1148, 1149, 1150, 1151, 1152, 1153, 1154, 1155] (by decide +kernel) (by decide +kernel)
set_option maxRecDepth 20000 in
theorem gL_law_X10_knots : GoodIn wsL_law (wsV RL 61 RX10 yX10_knots wsX10_knots) := goodIn_app (goodIn_of _ (by decide +kernel)) ggL_law_X10_knots
set_option maxRecDepth 20000 in
theorem ggL_law_X11_knots : GoodIn wsL_law wsX11_knots := goodIn_r _ [524, 525, 150, 151, 5, 152, 526, 527, 528, 529, 415, 149, 114, 496, 497, 498, 499, 113, 373, 374, 375, 376, 188, 377, 378, 379, 380, 381, 111, 382, 383, 384, 385, 386, 305, 306, 307, 387, 388, 389, 390, 109, 500, 501, 502, 503, 391, 392, 393, 394, 504, 505, 506, 507, 530, 531, 532, 533, 534, 535, 536, 508, 509, 510, 511, 537, 538, 539, 540, 541, 542, 543, 544, 545, 546, 547, 548, 549, 550, 551, 552, 1105, 1106, 1107, 1108, 1109, 1110, 1111, 1112, 1113, 1114, 1115, 1116, 1117, 1118, 1119, 1120, 1121, 1122, 1123, 1124, 1125, 1126, 1127, 1128, 1129, 1130, 1131, 1132, 1133, 1134, 1135, 1136, 1137, 1138, 1139, 1140, 1141, 1142, 1143] (by decide +kernel) (by decide +kernel)
set_option maxRecDepth 20000 in
theorem gL_law_X11_knots : GoodIn wsL_law (wsV RL 64 RX11 yX11_knots wsX11_knots) := goodIn_app (goodIn_of _ (by decide +kernel)) ggL_law_X11_knots
set_option maxRecDepth 20000 in
theorem ggL_law_X10_knot : GoodIn wsL_law wsX10_knot := goodIn_r _ [556, 516, 557, 558, 559, 560, 320, 321, 322, 2, 323, 142, 21, 15, 324, 325, 326, 14, 327, 137, 328, 329, 330, 331, 165, 332, 333, 334, 20, 335, 336, 337, 338, 62, 339, 63, 340, 158, 159, 160, 341, 342, 209, 343, 344, 345, 346, 347, 348, 64, 65, 349, 350, 351, 352, 353, 354, 355, 356, 357, 208, 210, 211, 212, 213, 429, 430, 431, 432, 450, 451, 452, 453, 143, 34, 454, 455, 456, 33, 457, 458, 459, 460, 84, 85, 83, 461, 462, 463, 464, 80, 81, 465, 466, 408, 409, 410, 467, 468, 469, 470, 471, 472, 473, 474, 82, 475, 476, 477, 478, 479, 480, 481, 482, 483, 484, 485, 486, 487, 488, 489, 490, 491, 1159, 1160, 1161, 1162, 1163, 1164, 1165, 1166, 1167, 1087, 1088, 1089, 1090, 1091, 1092, 1093, 1094, 1095, 1096, 1097, 1098, 1099, 1100, 1101, 1102, 1103, 1104, 1144, 1145, 1146, 1147, 1148, 1149, 1150, 1151, 1152, 1153, 1154, 1155] (by decide +kernel) (by decide +kernel)
set_option maxRecDepth 20000 in
theorem gL_law_X10_knot : GoodIn wsL_law (wsV RL 65 RX10 yX10_knot wsX10_knot) := goodIn_app (goodIn_of _ (by decide +kernel)) ggL_law_X10_knot
set_option maxRecDepth 20000 in
theorem ggL_law_X11_knot : GoodIn wsL_law wsX11_knot := goodIn_r _ [564, 525, 114, 526, 527, 528, 5, 529, 415, 149, 496, 497, 498, 499, 113, 373, 374, 375, 376, 188, 377, 378, 379, 380, 381, 111, 382, 383, 384, 385, 386, 305, 306, 307, 387, 388, 389, 390, 109, 500, 501, 502, 503, 391, 392, 393, 394, 504, 505, 506, 507, 530, 531, 532, 533, 534, 535, 536, 508, 509, 510, 511, 150, 151, 152, 541, 542, 543, 544, 545, 546, 547, 548, 549, 550, 551, 552, 1105, 1106, 1107, 1108, 1109, 1110, 1111, 1112, 1113, 1114, 1115, 1116, 1117, 1118, 1119, 1120, 1121, 1122, 1123, 1124, 1125, 1126, 1127, 1128, 1129, 1130, 1131, 1132, 1133, 1134, 1135, 1136, 1137, 1138, 1139, 1140, 1141, 1142, 1143] (by decide +kernel) (by decide +kernel)
set_option maxRecDepth 20000 in
theorem gL_law_X11_knot : GoodIn wsL_law (wsV RL 68 RX11 yX11_knot wsX11_knot) := goodIn_app (goodIn_of _ (by decide +kernel)) ggL_law_X11_knot
set_option maxRecDepth 20000 in
theorem ggL_law_X10_told : GoodIn wsL_law wsX10_told := goodIn_r _ [568, 569, 320, 321, 322, 2, 323, 142, 21, 15, 324, 325, 326, 14, 327, 137, 328, 329, 330, 331, 165, 332, 333, 334, 20, 335, 336, 337, 338, 62, 339, 63, 340, 158, 159, 160, 341, 342, 209, 343, 344, 345, 346, 347, 348, 64, 65, 349, 350, 351, 352, 353, 354, 355, 356, 357, 208, 210, 211, 212, 213, 429, 430, 431, 432, 450, 451, 452, 453, 143, 34, 454, 455, 456, 33, 457, 458, 459, 460, 84, 85, 83, 461, 462, 463, 464, 80, 81, 465, 466, 408, 409, 410, 467, 468, 469, 470, 471, 472, 473, 474, 82, 475, 476, 477, 478, 479, 480, 481, 482, 483, 484, 485, 486, 487, 488, 489, 490, 491, 570, 571, 572, 573, 574, 1087, 1088, 1089, 1090, 1091, 1092, 1093, 1094, 1095, 1096, 1097, 1098, 1099, 1100, 1101, 1102, 1103, 1104, 1144, 1145, 1146, 1147, 1148, 1149, 1150, 1151, 1152, 1153, 1154, 1155, 1159, 1160, 1161, 1162, 1163, 1164, 1165, 1166, 1167] (by decide +kernel) (by decide +kernel)
set_option maxRecDepth 20000 in
theorem gL_law_X10_told : GoodIn wsL_law (wsV RL 69 RX10 yX10_told wsX10_told) := goodIn_app (goodIn_of _ (by decide +kernel)) ggL_law_X10_told
set_option maxRecDepth 20000 in
theorem ggL_law_X11_told : GoodIn wsL_law wsX11_told := goodIn_r _ [578, 579, 525, 580, 526, 527, 528, 5, 529, 415, 149, 114, 496, 497, 498, 499, 113, 373, 374, 375, 376, 188, 377, 378, 379, 380, 381, 111, 382, 383, 384, 385, 386, 305, 306, 307, 387, 388, 389, 390, 109, 500, 501, 502, 503, 391, 392, 393, 394, 504, 505, 506, 507, 530, 531, 532, 533, 534, 535, 536, 508, 509, 510, 511, 541, 542, 543, 544, 545, 546, 547, 548, 549, 550, 551, 552, 1105, 1106, 1107, 1108, 1109, 1110, 1111, 1112, 1113, 1114, 1115, 1116, 1117, 1118, 1119, 1120, 1121, 1122, 1123, 1124, 1125, 1126, 1127, 1128, 1129, 1130, 1131, 1132, 1133, 1134, 1135, 1136, 1137, 1138, 1139, 1140, 1141, 1142, 1143] (by decide +kernel) (by decide +kernel)
set_option maxRecDepth 20000 in
theorem gL_law_X11_told : GoodIn wsL_law (wsV RL 73 RX11 yX11_told wsX11_told) := goodIn_app (goodIn_of _ (by decide +kernel)) ggL_law_X11_told
set_option maxRecDepth 20000 in
theorem ggL_law_X10_spoils : GoodIn wsL_law wsX10_spoils := goodIn_r _ [584, 320, 321, 322, 2, 323, 142, 21, 15, 324, 325, 326, 14, 327, 137, 328, 329, 330, 331, 165, 332, 333, 334, 20, 335, 336, 337, 338, 62, 339, 63, 340, 158, 159, 160, 341, 342, 209, 343, 344, 345, 346, 347, 348, 64, 65, 349, 350, 351, 352, 353, 354, 355, 356, 357, 208, 210, 211, 212, 213, 429, 430, 431, 432, 585, 586, 587, 588, 276, 22, 589, 590, 591, 592, 263, 593, 1087, 1088, 1089, 1090, 1091, 1092, 1093, 1094, 1095, 1096, 1097, 1098, 1099, 1100, 1101, 1102, 1103, 1104, 1144, 1145, 1146, 1147, 1148, 1149, 1150, 1151, 1152, 1153, 1154, 1155] (by decide +kernel) (by decide +kernel)
set_option maxRecDepth 20000 in
theorem gL_law_X10_spoils : GoodIn wsL_law (wsV RL 74 RX10 yX10_spoils wsX10_spoils) := goodIn_app (goodIn_of _ (by decide +kernel)) ggL_law_X10_spoils
set_option maxRecDepth 20000 in
theorem ggL_law_X11_spoils : GoodIn wsL_law wsX11_spoils := goodIn_r _ [597, 188, 150, 151, 5, 152, 598, 599, 600, 601, 377, 378, 379, 380, 381, 149, 111, 382, 383, 384, 385, 386, 305, 306, 307, 387, 388, 389, 390, 109, 391, 392, 393, 394, 602, 603, 604, 605, 606, 607, 608, 1105, 1106, 1107, 1108, 1109, 1110, 1111, 1112, 1113, 1114, 1115, 1116, 1117, 1118, 1119, 1120, 1121, 1122, 1123, 1124, 1125, 1126, 1127, 1128, 1129, 1130, 1131, 1132, 1133, 1134, 1135, 1136, 1137, 1138, 1139, 1140, 1141, 1142, 1143] (by decide +kernel) (by decide +kernel)
set_option maxRecDepth 20000 in
theorem gL_law_X11_spoils : GoodIn wsL_law (wsV RL 77 RX11 yX11_spoils wsX11_spoils) := goodIn_app (goodIn_of _ (by decide +kernel)) ggL_law_X11_spoils
set_option maxRecDepth 20000 in
theorem ggL_law_X10_gaps : GoodIn wsL_law wsX10_gaps := goodIn_r _ [612, 613, 614, 615, 2, 616, 15, 263, 48, 157, 158, 159, 14, 160, 137, 617, 618, 619, 620, 276, 621, 622, 623, 624, 166, 167, 168, 169, 57, 170, 1087, 1088, 1089, 1090, 1091, 1092, 1093, 1094, 1095, 1096, 1097, 1098, 1099, 1100, 1101, 1102, 1103, 1104, 1144, 1145, 1146, 1147, 1148] (by decide +kernel) (by decide +kernel)
set_option maxRecDepth 20000 in
theorem gL_law_X10_gaps : GoodIn wsL_law (wsV RL 78 RX10 yX10_gaps wsX10_gaps) := goodIn_app (goodIn_of _ (by decide +kernel)) ggL_law_X10_gaps
set_option maxRecDepth 20000 in
theorem ggL_law_X11_gaps : GoodIn wsL_law wsX11_gaps := goodIn_r _ [628, 629, 630, 631, 5, 632, 149, 381, 188, 382, 111, 180, 181, 182, 183, 150, 151, 152, 305, 306, 307, 383, 384, 385, 386, 387, 388, 389, 390, 109, 1105, 1106, 1107, 1108, 1109, 1110, 1111, 1112, 1113, 1114, 1115, 1116, 1117, 1118, 1119, 1120, 1121, 1122, 1123, 1124, 1125, 1126, 1127, 1128, 1129, 1130, 1131, 1132, 1133, 1134, 1135, 1136, 1137, 1138, 1139, 1140, 1141, 1142, 1143] (by decide +kernel) (by decide +kernel)
set_option maxRecDepth 20000 in
theorem gL_law_X11_gaps : GoodIn wsL_law (wsV RL 81 RX11 yX11_gaps wsX11_gaps) := goodIn_app (goodIn_of _ (by decide +kernel)) ggL_law_X11_gaps
set_option maxRecDepth 20000 in
theorem ggL_law_X10_runs : GoodIn wsL_law wsX10_runs := goodIn_r _ [636, 15, 276, 613, 614, 615, 2, 616, 263, 48, 157, 158, 159, 14, 160, 137, 621, 622, 623, 624, 166, 167, 168, 169, 57, 170, 1087, 1088, 1089, 1090, 1091, 1092, 1093, 1094, 1095, 1096, 1097, 1098, 1099, 1100, 1101, 1102, 1103, 1104, 1144, 1145, 1146, 1147, 1148] (by decide +kernel) (by decide +kernel)
set_option maxRecDepth 20000 in
theorem gL_law_X10_runs : GoodIn wsL_law (wsV RL 82 RX10 yX10_runs wsX10_runs) := goodIn_app (goodIn_of _ (by decide +kernel)) ggL_law_X10_runs
set_option maxRecDepth 20000 in
theorem ggL_law_X11_runs : GoodIn wsL_law wsX11_runs := goodIn_r _ [640, 188, 629, 630, 631, 5, 632, 149, 381, 382, 111, 180, 181, 182, 183, 150, 151, 152, 305, 306, 307, 387, 388, 389, 390, 109, 1105, 1106, 1107, 1108, 1109, 1110, 1111, 1112, 1113, 1114, 1115, 1116, 1117, 1118, 1119, 1120, 1121, 1122, 1123, 1124, 1125, 1126, 1127, 1128, 1129, 1130, 1131, 1132, 1133, 1134, 1135, 1136, 1137, 1138, 1139, 1140, 1141, 1142, 1143] (by decide +kernel) (by decide +kernel)
set_option maxRecDepth 20000 in
theorem gL_law_X11_runs : GoodIn wsL_law (wsV RL 85 RX11 yX11_runs wsX11_runs) := goodIn_app (goodIn_of _ (by decide +kernel)) ggL_law_X11_runs
set_option maxRecDepth 20000 in
theorem ggL_law_X10_kinship : GoodIn wsL_law wsX10_kinship := goodIn_r _ [644, 15, 263, 48, 613, 614, 615, 2, 616, 157, 158, 159, 14, 160, 137, 645, 204, 205, 206, 57, 170, 207, 208, 209, 210, 211, 212, 213, 1087, 1088, 1089, 1090, 1091, 1092, 1093, 1094, 1095, 1096, 1097, 1098, 1099, 1100, 1101, 1102, 1103, 1104, 1144, 1145, 1146, 1147, 1148] (by decide +kernel) (by decide +kernel)
set_option maxRecDepth 20000 in
theorem gL_law_X10_kinship : GoodIn wsL_law (wsV RL 86 RX10 yX10_kinship wsX10_kinship) := goodIn_app (goodIn_of _ (by decide +kernel)) ggL_law_X10_kinship
set_option maxRecDepth 20000 in
theorem ggL_law_X11_kinship : GoodIn wsL_law wsX11_kinship := goodIn_r _ [649, 629, 630, 631, 5, 632, 149, 381, 188, 382, 111, 180, 181, 182, 183, 150, 151, 152, 305, 306, 307, 650, 651, 652, 653, 109, 530, 531, 532, 1105, 1106, 1107, 1108, 1109, 1110, 1111, 1112, 1113, 1114, 1115, 1116, 1117, 1118, 1119, 1120, 1121, 1122, 1123, 1124, 1125, 1126, 1127, 1128, 1129, 1130, 1131, 1132, 1133, 1134, 1135, 1136, 1137, 1138, 1139, 1140, 1141, 1142, 1143] (by decide +kernel) (by decide +kernel)
set_option maxRecDepth 20000 in
theorem gL_law_X11_kinship : GoodIn wsL_law (wsV RL 89 RX11 yX11_kinship wsX11_kinship) := goodIn_app (goodIn_of _ (by decide +kernel)) ggL_law_X11_kinship
set_option maxRecDepth 20000 in
theorem ggL_law_X10_kin : GoodIn wsL_law wsX10_kin := goodIn_r _ [657, 30, 15, 658, 659, 660, 661, 29, 662, 663, 75, 664, 665, 666, 667, 668, 669, 325, 326, 14, 327, 137, 670, 671, 672, 673, 674, 204, 205, 206, 57, 170, 158, 159, 160, 207, 208, 209, 210, 211, 212, 213, 675, 676, 677, 678, 1087, 1088, 1089, 1090, 1091, 1092, 1093, 1094, 1095, 1096, 1097, 1098, 1099, 1100, 1101, 1102, 1103, 1104, 1157, 1158, 1144, 1145, 1146, 1147, 1148] (by decide +kernel) (by decide +kernel)
set_option maxRecDepth 20000 in
theorem gL_law_X10_kin : GoodIn wsL_law (wsV RL 90 RX10 yX10_kin wsX10_kin) := goodIn_app (goodIn_of _ (by decide +kernel)) ggL_law_X10_kin
set_option maxRecDepth 20000 in
theorem ggL_law_X11_kin : GoodIn wsL_law wsX11_kin := goodIn_r _ [682, 150, 151, 5, 152, 373, 374, 375, 376, 188, 377, 378, 379, 380, 381, 149, 111, 382, 650, 651, 652, 653, 109, 530, 531, 532, 420, 421, 422, 423, 391, 392, 393, 394, 1105, 1106, 1107, 1108, 1109, 1110, 1111, 1112, 1113, 1114, 1115, 1116, 1117, 1118, 1119, 1120, 1121, 1122, 1123, 1124, 1125, 1126, 1127, 1128, 1129, 1130, 1131, 1132, 1133, 1134, 1135, 1136, 1137, 1138, 1139, 1140, 1141, 1142, 1143] (by decide +kernel) (by decide +kernel)
set_option maxRecDepth 20000 in
theorem gL_law_X11_kin : GoodIn wsL_law (wsV RL 93 RX11 yX11_kin wsX11_kin) := goodIn_app (goodIn_of _ (by decide +kernel)) ggL_law_X11_kin
set_option maxRecDepth 20000 in
theorem ggL_law_X10_shared : GoodIn wsL_law wsX10_shared := goodIn_r _ [686, 15, 157, 158, 159, 14, 160, 137, 645, 204, 205, 206, 57, 170, 207, 208, 209, 210, 211, 212, 213, 1087, 1088, 1089, 1090, 1091, 1092, 1093, 1094, 1095, 1096, 1097, 1098, 1099, 1100, 1101, 1102, 1103, 1104, 1144, 1145, 1146, 1147, 1148] (by decide +kernel) (by decide +kernel)
set_option maxRecDepth 20000 in
theorem gL_law_X10_shared : GoodIn wsL_law (wsV RL 94 RX10 yX10_shared wsX10_shared) := goodIn_app (goodIn_of _ (by decide +kernel)) ggL_law_X10_shared
set_option maxRecDepth 20000 in
theorem ggL_law_X11_shared : GoodIn wsL_law wsX11_shared := goodIn_r _ [690, 109, 180, 181, 182, 5, 183, 149, 150, 151, 152, 530, 531, 532, 1105, 1106, 1107, 1108, 1109, 1110, 1111, 1112, 1113, 1114, 1115, 1116, 1117, 1118, 1119, 1120, 1121, 1122, 1123, 1124, 1125, 1126, 1127, 1128, 1129, 1130, 1131, 1132, 1133, 1134, 1135, 1136, 1137, 1138, 1139, 1140, 1141, 1142, 1143] (by decide +kernel) (by decide +kernel)
set_option maxRecDepth 20000 in
theorem gL_law_X11_shared : GoodIn wsL_law (wsV RL 97 RX11 yX11_shared wsX11_shared) := goodIn_app (goodIn_of _ (by decide +kernel)) ggL_law_X11_shared
set_option maxRecDepth 20000 in
theorem ggL_law_X10_chain : GoodIn wsL_law wsX10_chain := goodIn_r _ [694, 15, 263, 157, 158, 159, 14, 160, 137, 695, 696, 697, 698, 699, 700, 701, 702, 56, 203, 204, 205, 206, 57, 170, 207, 208, 209, 210, 211, 212, 213, 1087, 1088, 1089, 1090, 1091, 1092, 1093, 1094, 1095, 1096, 1097, 1098, 1099, 1100, 1101, 1102, 1103, 1104, 1144, 1145, 1146, 1147, 1148] (by decide +kernel) (by decide +kernel)
set_option maxRecDepth 20000 in
theorem gL_law_X10_chain : GoodIn wsL_law (wsV RL 98 RX10 yX10_chain wsX10_chain) := goodIn_app (goodIn_of _ (by decide +kernel)) ggL_law_X10_chain
set_option maxRecDepth 20000 in
theorem ggL_law_X11_chain : GoodIn wsL_law wsX11_chain := goodIn_r _ [706, 149, 108, 180, 181, 182, 5, 183, 150, 151, 152, 504, 505, 506, 507, 305, 306, 307, 707, 688, 689, 690, 109, 530, 531, 532, 1105, 1106, 1107, 1108, 1109, 1110, 1111, 1112, 1113, 1114, 1115, 1116, 1117, 1118, 1119, 1120, 1121, 1122, 1123, 1124, 1125, 1126, 1127, 1128, 1129, 1130, 1131, 1132, 1133, 1134, 1135, 1136, 1137, 1138, 1139, 1140, 1141, 1142, 1143] (by decide +kernel) (by decide +kernel)
set_option maxRecDepth 20000 in
theorem gL_law_X11_chain : GoodIn wsL_law (wsV RL 101 RX11 yX11_chain wsX11_chain) := goodIn_app (goodIn_of _ (by decide +kernel)) ggL_law_X11_chain
set_option maxRecDepth 20000 in
theorem ggL_law_X10_walk : GoodIn wsL_law wsX10_walk := goodIn_r _ [711, 15, 263, 712, 713, 714, 14, 715, 137, 716, 717, 718, 719, 56, 57, 207, 208, 209, 210, 211, 212, 213, 720, 200, 201, 202, 203, 204, 205, 206, 170, 158, 159, 160, 1087, 1088, 1089, 1090, 1091, 1092, 1093, 1094, 1095, 1096, 1097, 1098, 1099, 1100, 1101, 1102, 1103, 1104, 1144, 1145, 1146, 1147, 1148] (by decide +kernel) (by decide +kernel)
set_option maxRecDepth 20000 in
theorem gL_law_X10_walk : GoodIn wsL_law (wsV RL 102 RX10 yX10_walk wsX10_walk) := goodIn_app (goodIn_of _ (by decide +kernel)) ggL_law_X10_walk
set_option maxRecDepth 20000 in
theorem ggL_law_X11_walk : GoodIn wsL_law wsX11_walk := goodIn_r _ [724, 149, 150, 151, 5, 152, 305, 306, 307, 725, 726, 727, 728, 108, 109, 530, 531, 532, 222, 223, 224, 225, 1105, 1106, 1107, 1108, 1109, 1110, 1111, 1112, 1113, 1114, 1115, 1116, 1117, 1118, 1119, 1120, 1121, 1122, 1123, 1124, 1125, 1126, 1127, 1128, 1129, 1130, 1131, 1132, 1133, 1134, 1135, 1136, 1137, 1138, 1139, 1140, 1141, 1142, 1143] (by decide +kernel) (by decide +kernel)
set_option maxRecDepth 20000 in
theorem gL_law_X11_walk : GoodIn wsL_law (wsV RL 105 RX11 yX11_walk wsX11_walk) := goodIn_app (goodIn_of _ (by decide +kernel)) ggL_law_X11_walk
set_option maxRecDepth 20000 in
theorem ggL_law_X10_turned : GoodIn wsL_law wsX10_turned := goodIn_r _ [732, 15, 263, 48, 613, 614, 615, 2, 616, 157, 158, 159, 14, 160, 137, 1087, 1088, 1089, 1090, 1091, 1092, 1093, 1094, 1095, 1096, 1097, 1098, 1099, 1100, 1101, 1102, 1103, 1104, 1144, 1145, 1146, 1147, 1148] (by decide +kernel) (by decide +kernel)
set_option maxRecDepth 20000 in
theorem gL_law_X10_turned : GoodIn wsL_law (wsV RL 106 RX10 yX10_turned wsX10_turned) := goodIn_app (goodIn_of _ (by decide +kernel)) ggL_law_X10_turned
set_option maxRecDepth 20000 in
theorem ggL_law_X11_turned : GoodIn wsL_law wsX11_turned := goodIn_r _ [736, 381, 111, 629, 630, 631, 5, 632, 149, 188, 382, 180, 181, 182, 183, 150, 151, 152, 305, 306, 307, 1105, 1106, 1107, 1108, 1109, 1110, 1111, 1112, 1113, 1114, 1115, 1116, 1117, 1118, 1119, 1120, 1121, 1122, 1123, 1124, 1125, 1126, 1127, 1128, 1129, 1130, 1131, 1132, 1133, 1134, 1135, 1136, 1137, 1138, 1139, 1140, 1141, 1142, 1143] (by decide +kernel) (by decide +kernel)
set_option maxRecDepth 20000 in
theorem gL_law_X11_turned : GoodIn wsL_law (wsV RL 109 RX11 yX11_turned wsX11_turned) := goodIn_app (goodIn_of _ (by decide +kernel)) ggL_law_X11_turned
set_option maxRecDepth 20000 in
theorem ggL_law_X10_rank : GoodIn wsL_law wsX10_rank := goodIn_r _ [740, 48, 15, 263, 613, 614, 615, 2, 616, 157, 158, 159, 14, 160, 137, 320, 321, 322, 323, 142, 21, 324, 325, 326, 327, 328, 329, 330, 331, 165, 332, 333, 334, 20, 335, 336, 337, 338, 62, 339, 63, 340, 341, 342, 209, 343, 344, 345, 346, 347, 348, 64, 65, 349, 350, 351, 352, 353, 354, 355, 356, 357, 208, 210, 211, 212, 213, 741, 742, 743, 744, 407, 408, 409, 410, 1087, 1088, 1089, 1090, 1091, 1092, 1093, 1094, 1095, 1096, 1097, 1098, 1099, 1100, 1101, 1102, 1103, 1104, 1144, 1145, 1146, 1147, 1148, 1149, 1150, 1151, 1152, 1153, 1154, 1155] (by decide +kernel) (by decide +kernel)
set_option maxRecDepth 20000 in
theorem gL_law_X10_rank : GoodIn wsL_law (wsV RL 110 RX10 yX10_rank wsX10_rank) := goodIn_app (goodIn_of _ (by decide +kernel)) ggL_law_X10_rank
set_option maxRecDepth 20000 in
theorem ggL_law_X11_rank : GoodIn wsL_law wsX11_rank := goodIn_r _ [748, 415, 112, 629, 630, 631, 5, 632, 149, 381, 188, 382, 111, 180, 181, 182, 183, 150, 151, 152, 305, 306, 307, 416, 417, 418, 419, 373, 374, 375, 376, 377, 378, 379, 380, 383, 384, 385, 386, 387, 388, 389, 390, 109, 420, 421, 422, 423, 391, 392, 393, 394, 1105, 1106, 1107, 1108, 1109, 1110, 1111, 1112, 1113, 1114, 1115, 1116, 1117, 1118, 1119, 1120, 1121, 1122, 1123, 1124, 1125, 1126, 1127, 1128, 1129, 1130, 1131, 1132, 1133, 1134, 1135, 1136, 1137, 1138, 1139, 1140, 1141, 1142, 1143] (by decide +kernel) (by decide +kernel)
set_option maxRecDepth 20000 in
theorem gL_law_X11_rank : GoodIn wsL_law (wsV RL 113 RX11 yX11_rank wsX11_rank) := goodIn_app (goodIn_of _ (by decide +kernel)) ggL_law_X11_rank
set_option maxRecDepth 20000 in
theorem ggL_law_X10_swap : GoodIn wsL_law wsX10_swap := goodIn_r _ [752, 15, 263, 48, 613, 614, 615, 2, 616, 157, 158, 159, 14, 160, 137, 1087, 1088, 1089, 1090, 1091, 1092, 1093, 1094, 1095, 1096, 1097, 1098, 1099, 1100, 1101, 1102, 1103, 1104, 1144, 1145, 1146, 1147, 1148] (by decide +kernel) (by decide +kernel)
set_option maxRecDepth 20000 in
theorem gL_law_X10_swap : GoodIn wsL_law (wsV RL 114 RX10 yX10_swap wsX10_swap) := goodIn_app (goodIn_of _ (by decide +kernel)) ggL_law_X10_swap
set_option maxRecDepth 20000 in
theorem ggL_law_X11_swap : GoodIn wsL_law wsX11_swap := goodIn_r _ [756, 381, 111, 629, 630, 631, 5, 632, 149, 188, 382, 180, 181, 182, 183, 150, 151, 152, 305, 306, 307, 420, 421, 422, 423, 1105, 1106, 1107, 1108, 1109, 1110, 1111, 1112, 1113, 1114, 1115, 1116, 1117, 1118, 1119, 1120, 1121, 1122, 1123, 1124, 1125, 1126, 1127, 1128, 1129, 1130, 1131, 1132, 1133, 1134, 1135, 1136, 1137, 1138, 1139, 1140, 1141, 1142, 1143] (by decide +kernel) (by decide +kernel)
set_option maxRecDepth 20000 in
theorem gL_law_X11_swap : GoodIn wsL_law (wsV RL 117 RX11 yX11_swap wsX11_swap) := goodIn_app (goodIn_of _ (by decide +kernel)) ggL_law_X11_swap
set_option maxRecDepth 20000 in
theorem ggL_law_X10_feed : GoodIn wsL_law wsX10_feed := goodIn_r _ [760, 38, 277, 761, 762, 763, 37, 764, 765, 89, 1087, 1088, 1089, 1090, 1091, 1092, 1093, 1094, 1095, 1096, 1097, 1098, 1099, 1100, 1101, 1102, 1103, 1104, 1168, 1169, 1170, 1171, 1172, 1173] (by decide +kernel) (by decide +kernel)
set_option maxRecDepth 20000 in
theorem gL_law_X10_feed : GoodIn wsL_law (wsV RL 118 RX10 yX10_feed wsX10_feed) := goodIn_app (goodIn_of _ (by decide +kernel)) ggL_law_X10_feed
set_option maxRecDepth 20000 in
theorem ggL_law_X11_feed : GoodIn wsL_law wsX11_feed := goodIn_r _ [769, 299, 115, 150, 151, 5, 152, 1105, 1106, 1107, 1108, 1109, 1110, 1111, 1112, 1113, 1114, 1115, 1116, 1117, 1118, 1119, 1120, 1121, 1122, 1123, 1124, 1125, 1126, 1127, 1128, 1129, 1130, 1131, 1132, 1133, 1134, 1135, 1136, 1137, 1138, 1139, 1140, 1141, 1142, 1143] (by decide +kernel) (by decide +kernel)
set_option maxRecDepth 20000 in
theorem gL_law_X11_feed : GoodIn wsL_law (wsV RL 121 RX11 yX11_feed wsX11_feed) := goodIn_app (goodIn_of _ (by decide +kernel)) ggL_law_X11_feed
set_option maxRecDepth 20000 in
theorem ggL_law_X10_read : GoodIn wsL_law wsX10_read := goodIn_r _ [773, 17, 15, 38, 278, 774, 775, 776, 14, 777, 137, 165, 56, 778, 779, 780, 781, 57, 58, 782, 783, 784, 37, 785, 765, 786, 787, 788, 789, 790, 791, 792, 793, 794, 795, 796, 797, 798, 799, 89, 800, 801, 802, 803, 804, 805, 806, 807, 808, 809, 810, 811, 812, 813, 814, 815, 816, 817, 818, 819, 820, 821, 172, 173, 174, 170, 158, 159, 160, 175, 162, 163, 164, 822, 823, 824, 825, 826, 134, 135, 136, 827, 167, 168, 169, 138, 139, 140, 2, 141, 142, 143, 144, 1087, 1088, 1089, 1090, 1091, 1092, 1093, 1094, 1095, 1096, 1097, 1098, 1099, 1100, 1101, 1102, 1103, 1104, 1144, 1145, 1146, 1147, 1148, 1168, 1169, 1170, 1171, 1172, 1173] (by decide +kernel) (by decide +kernel)
set_option maxRecDepth 20000 in
theorem gL_law_X10_read : GoodIn wsL_law (wsV RL 122 RX10 yX10_read wsX10_read) := goodIn_app (goodIn_of _ (by decide +kernel)) ggL_law_X10_read
set_option maxRecDepth 20000 in
theorem ggL_law_X11_read : GoodIn wsL_law wsX11_read := goodIn_r _ [831, 149, 188, 108, 117, 109, 118, 300, 299, 832, 833, 834, 5, 835, 836, 837, 838, 839, 840, 841, 842, 843, 844, 845, 846, 847, 115, 848, 849, 850, 851, 852, 853, 854, 855, 856, 857, 858, 859, 150, 151, 152, 860, 861, 862, 863, 864, 865, 866, 116, 867, 868, 869, 870, 871, 872, 873, 874, 180, 181, 182, 183, 875, 876, 877, 878, 110, 879, 146, 147, 148, 880, 881, 882, 1105, 1106, 1107, 1108, 1109, 1110, 1111, 1112, 1113, 1114, 1115, 1116, 1117, 1118, 1119, 1120, 1121, 1122, 1123, 1124, 1125, 1126, 1127, 1128, 1129, 1130, 1131, 1132, 1133, 1134, 1135, 1136, 1137, 1138, 1139, 1140, 1141, 1142, 1143] (by decide +kernel) (by decide +kernel)
set_option maxRecDepth 20000 in
theorem gL_law_X11_read : GoodIn wsL_law (wsV RL 125 RX11 yX11_read wsX11_read) := goodIn_app (goodIn_of _ (by decide +kernel)) ggL_law_X11_read
set_option maxRecDepth 20000 in
theorem ggL_law_X10_spell : GoodIn wsL_law wsX10_spell := goodIn_r _ [886, 887, 888, 889, 890, 2, 891, 144, 42, 15, 892, 893, 894, 41, 895, 896, 897, 898, 899, 900, 901, 902, 93, 903, 904, 905, 906, 907, 908, 909, 910, 911, 912, 913, 914, 14, 915, 165, 58, 235, 167, 168, 169, 57, 170, 158, 159, 160, 137, 916, 237, 238, 239, 240, 241, 242, 243, 917, 1174, 1175, 1087, 1088, 1089, 1090, 1091, 1092, 1093, 1094, 1095, 1096, 1097, 1098, 1099, 1100, 1101, 1102, 1103, 1104, 1144, 1145, 1146, 1147, 1148] (by decide +kernel) (by decide +kernel)
set_option maxRecDepth 20000 in
theorem gL_law_X10_spell : GoodIn wsL_law (wsV RL 126 RX10 yX10_spell wsX10_spell) := goodIn_app (goodIn_of _ (by decide +kernel)) ggL_law_X10_spell
set_option maxRecDepth 20000 in
theorem ggL_law_X11_spell : GoodIn wsL_law wsX11_spell := goodIn_r _ [921, 922, 923, 924, 925, 5, 926, 149, 108, 109, 927, 928, 929, 930, 119, 931, 932, 933, 934, 188, 110, 305, 306, 307, 935, 936, 937, 938, 253, 254, 255, 256, 257, 258, 1105, 1106, 1107, 1108, 1109, 1110, 1111, 1112, 1113, 1114, 1115, 1116, 1117, 1118, 1119, 1120, 1121, 1122, 1123, 1124, 1125, 1126, 1127, 1128, 1129, 1130, 1131, 1132, 1133, 1134, 1135, 1136, 1137, 1138, 1139, 1140, 1141, 1142, 1143] (by decide +kernel) (by decide +kernel)
set_option maxRecDepth 20000 in
theorem gL_law_X11_spell : GoodIn wsL_law (wsV RL 129 RX11 yX11_spell wsX11_spell) := goodIn_app (goodIn_of _ (by decide +kernel)) ggL_law_X11_spell
set_option maxRecDepth 20000 in
theorem ggL_law_X10_paper : GoodIn wsL_law wsX10_paper := goodIn_r _ [942, 887, 943, 888, 889, 890, 2, 891, 144, 42, 15, 892, 893, 894, 41, 895, 896, 897, 898, 899, 900, 901, 902, 93, 903, 904, 905, 906, 907, 908, 909, 910, 911, 912, 913, 914, 14, 915, 165, 58, 235, 167, 168, 169, 57, 170, 158, 159, 160, 137, 916, 237, 238, 239, 240, 241, 242, 243, 917, 1174, 1175, 1087, 1088, 1089, 1090, 1091, 1092, 1093, 1094, 1095, 1096, 1097, 1098, 1099, 1100, 1101, 1102, 1103, 1104, 1144, 1145, 1146, 1147, 1148] (by decide +kernel) (by decide +kernel)
set_option maxRecDepth 20000 in
theorem gL_law_X10_paper : GoodIn wsL_law (wsV RL 130 RX10 yX10_paper wsX10_paper) := goodIn_app (goodIn_of _ (by decide +kernel)) ggL_law_X10_paper
set_option maxRecDepth 20000 in
theorem ggL_law_X11_paper : GoodIn wsL_law wsX11_paper := goodIn_r _ [947, 922, 119, 923, 924, 925, 5, 926, 149, 108, 109, 927, 928, 929, 930, 931, 932, 933, 934, 188, 110, 305, 306, 307, 935, 936, 937, 938, 253, 254, 255, 256, 257, 258, 150, 151, 152, 1105, 1106, 1107, 1108, 1109, 1110, 1111, 1112, 1113, 1114, 1115, 1116, 1117, 1118, 1119, 1120, 1121, 1122, 1123, 1124, 1125, 1126, 1127, 1128, 1129, 1130, 1131, 1132, 1133, 1134, 1135, 1136, 1137, 1138, 1139, 1140, 1141, 1142, 1143] (by decide +kernel) (by decide +kernel)
set_option maxRecDepth 20000 in
theorem gL_law_X11_paper : GoodIn wsL_law (wsV RL 133 RX11 yX11_paper wsX11_paper) := goodIn_app (goodIn_of _ (by decide +kernel)) ggL_law_X11_paper
set_option maxRecDepth 20000 in
theorem ggL_law_X10_tray : GoodIn wsL_law wsX10_tray := goodIn_r _ [951, 44, 952, 953, 1087, 1088, 1089, 1090, 1091, 1092, 1093, 1094, 1095, 1096, 1097, 1098, 1099, 1100, 1101, 1102, 1103, 1104, 1176, 1177, 1178, 1179] (by decide +kernel) (by decide +kernel)
set_option maxRecDepth 20000 in
theorem gL_law_X10_tray : GoodIn wsL_law (wsV RL 134 RX10 yX10_tray wsX10_tray) := goodIn_app (goodIn_of _ (by decide +kernel)) ggL_law_X10_tray
set_option maxRecDepth 20000 in
theorem ggL_law_X11_tray : GoodIn wsL_law wsX11_tray := goodIn_r _ [957, 120, 121, 958, 959, 5, 960, 150, 151, 152, 1105, 1106, 1107, 1108, 1109, 1110, 1111, 1112, 1113, 1114, 1115, 1116, 1117, 1118, 1119, 1120, 1121, 1122, 1123, 1124, 1125, 1126, 1127, 1128, 1129, 1130, 1131, 1132, 1133, 1134, 1135, 1136, 1137, 1138, 1139, 1140, 1141, 1142, 1143] (by decide +kernel) (by decide +kernel)
set_option maxRecDepth 20000 in
theorem gL_law_X11_tray : GoodIn wsL_law (wsV RL 137 RX11 yX11_tray wsX11_tray) := goodIn_app (goodIn_of _ (by decide +kernel)) ggL_law_X11_tray
set_option maxRecDepth 20000 in
theorem ggL_law_X10_lay : GoodIn wsL_law wsX10_lay := goodIn_r _ [964, 15, 44, 952, 276, 230, 953, 157, 158, 159, 14, 160, 137, 166, 167, 168, 169, 57, 170, 965, 966, 967, 50, 968, 98, 969, 97, 970, 971, 972, 973, 1087, 1088, 1089, 1090, 1091, 1092, 1093, 1094, 1095, 1096, 1097, 1098, 1099, 1100, 1101, 1102, 1103, 1104, 1176, 1177, 1178, 1179, 1144, 1145, 1146, 1147, 1148] (by decide +kernel) (by decide +kernel)
set_option maxRecDepth 20000 in
theorem gL_law_X10_lay : GoodIn wsL_law (wsV RL 138 RX10 yX10_lay wsX10_lay) := goodIn_app (goodIn_of _ (by decide +kernel)) ggL_law_X10_lay
set_option maxRecDepth 20000 in
theorem ggL_law_X11_lay : GoodIn wsL_law wsX11_lay := goodIn_r _ [977, 120, 188, 109, 110, 121, 958, 959, 5, 960, 150, 151, 152, 180, 181, 182, 183, 149, 305, 306, 307, 978, 979, 980, 981, 122, 123, 982, 983, 984, 985, 1105, 1106, 1107, 1108, 1109, 1110, 1111, 1112, 1113, 1114, 1115, 1116, 1117, 1118, 1119, 1120, 1121, 1122, 1123, 1124, 1125, 1126, 1127, 1128, 1129, 1130, 1131, 1132, 1133, 1134, 1135, 1136, 1137, 1138, 1139, 1140, 1141, 1142, 1143] (by decide +kernel) (by decide +kernel)
set_option maxRecDepth 20000 in
theorem gL_law_X11_lay : GoodIn wsL_law (wsV RL 141 RX11 yX11_lay wsX11_lay) := goodIn_app (goodIn_of _ (by decide +kernel)) ggL_law_X11_lay
set_option maxRecDepth 20000 in
theorem ggL_law_X10_laid : GoodIn wsL_law wsX10_laid := goodIn_r _ [989, 15, 44, 952, 230, 990, 161, 162, 163, 14, 164, 165, 991, 971, 972, 50, 973, 969, 97, 1087, 1088, 1089, 1090, 1091, 1092, 1093, 1094, 1095, 1096, 1097, 1098, 1099, 1100, 1101, 1102, 1103, 1104, 1176, 1177, 1178, 1179, 1144, 1145, 1146, 1147, 1148] (by decide +kernel) (by decide +kernel)
set_option maxRecDepth 20000 in
theorem gL_law_X10_laid : GoodIn wsL_law (wsV RL 142 RX10 yX10_laid wsX10_laid) := goodIn_app (goodIn_of _ (by decide +kernel)) ggL_law_X10_laid
set_option maxRecDepth 20000 in
theorem ggL_law_X11_laid : GoodIn wsL_law wsX11_laid := goodIn_r _ [995, 120, 110, 123, 958, 959, 5, 960, 150, 151, 152, 184, 185, 186, 187, 188, 982, 983, 984, 985, 121, 122, 1105, 1106, 1107, 1108, 1109, 1110, 1111, 1112, 1113, 1114, 1115, 1116, 1117, 1118, 1119, 1120, 1121, 1122, 1123, 1124, 1125, 1126, 1127, 1128, 1129, 1130, 1131, 1132, 1133, 1134, 1135, 1136, 1137, 1138, 1139, 1140, 1141, 1142, 1143] (by decide +kernel) (by decide +kernel)
set_option maxRecDepth 20000 in
theorem gL_law_X11_laid : GoodIn wsL_law (wsV RL 145 RX11 yX11_laid wsX11_laid) := goodIn_app (goodIn_of _ (by decide +kernel)) ggL_law_X11_laid
set_option maxRecDepth 20000 in
theorem ggL_law_X10_list : GoodIn wsL_law wsX10_list := goodIn_r _ [999, 46, 1000, 1001, 1002, 52, 1003, 102, 103, 1087, 1088, 1089, 1090, 1091, 1092, 1093, 1094, 1095, 1096, 1097, 1098, 1099, 1100, 1101, 1102, 1103, 1104, 1180, 1181] (by decide +kernel) (by decide +kernel)
set_option maxRecDepth 20000 in
theorem gL_law_X10_list : GoodIn wsL_law (wsV RL 146 RX10 yX10_list wsX10_list) := goodIn_app (goodIn_of _ (by decide +kernel)) ggL_law_X10_list
set_option maxRecDepth 20000 in
theorem ggL_law_X11_list : GoodIn wsL_law wsX11_list := goodIn_r _ [1007, 124, 125, 1008, 1009, 5, 1010, 150, 151, 152, 1105, 1106, 1107, 1108, 1109, 1110, 1111, 1112, 1113, 1114, 1115, 1116, 1117, 1118, 1119, 1120, 1121, 1122, 1123, 1124, 1125, 1126, 1127, 1128, 1129, 1130, 1131, 1132, 1133, 1134, 1135, 1136, 1137, 1138, 1139, 1140, 1141, 1142, 1143] (by decide +kernel) (by decide +kernel)
set_option maxRecDepth 20000 in
theorem gL_law_X11_list : GoodIn wsL_law (wsV RL 149 RX11 yX11_list wsX11_list) := goodIn_app (goodIn_of _ (by decide +kernel)) ggL_law_X11_list
set_option maxRecDepth 20000 in
theorem ggL_law_X10_put : GoodIn wsL_law wsX10_put := goodIn_r _ [1014, 46, 1015, 1016, 1017, 1018, 52, 1019, 102, 1020, 1021, 1022, 1023, 1087, 1088, 1089, 1090, 1091, 1092, 1093, 1094, 1095, 1096, 1097, 1098, 1099, 1100, 1101, 1102, 1103, 1104, 1180, 1181] (by decide +kernel) (by decide +kernel)
set_option maxRecDepth 20000 in
theorem gL_law_X10_put : GoodIn wsL_law (wsV RL 150 RX10 yX10_put wsX10_put) := goodIn_app (goodIn_of _ (by decide +kernel)) ggL_law_X10_put
set_option maxRecDepth 20000 in
theorem ggL_law_X11_put : GoodIn wsL_law wsX11_put := goodIn_r _ [1027, 124, 125, 1008, 1009, 5, 1010, 150, 151, 152, 1105, 1106, 1107, 1108, 1109, 1110, 1111, 1112, 1113, 1114, 1115, 1116, 1117, 1118, 1119, 1120, 1121, 1122, 1123, 1124, 1125, 1126, 1127, 1128, 1129, 1130, 1131, 1132, 1133, 1134, 1135, 1136, 1137, 1138, 1139, 1140, 1141, 1142, 1143] (by decide +kernel) (by decide +kernel)
set_option maxRecDepth 20000 in
theorem gL_law_X11_put : GoodIn wsL_law (wsV RL 153 RX11 yX11_put wsX11_put) := goodIn_app (goodIn_of _ (by decide +kernel)) ggL_law_X11_put
set_option maxRecDepth 20000 in
theorem ggL_law_X10_get : GoodIn wsL_law wsX10_get := goodIn_r _ [1031, 46, 1032, 1015, 1020, 1021, 1022, 52, 1023, 102, 1087, 1088, 1089, 1090, 1091, 1092, 1093, 1094, 1095, 1096, 1097, 1098, 1099, 1100, 1101, 1102, 1103, 1104, 1180, 1181] (by decide +kernel) (by decide +kernel)
set_option maxRecDepth 20000 in
theorem gL_law_X10_get : GoodIn wsL_law (wsV RL 154 RX10 yX10_get wsX10_get) := goodIn_app (goodIn_of _ (by decide +kernel)) ggL_law_X10_get
set_option maxRecDepth 20000 in
theorem ggL_law_X11_get : GoodIn wsL_law wsX11_get := goodIn_r _ [1036, 124, 125, 1037, 1008, 1009, 5, 1010, 150, 151, 152, 1105, 1106, 1107, 1108, 1109, 1110, 1111, 1112, 1113, 1114, 1115, 1116, 1117, 1118, 1119, 1120, 1121, 1122, 1123, 1124, 1125, 1126, 1127, 1128, 1129, 1130, 1131, 1132, 1133, 1134, 1135, 1136, 1137, 1138, 1139, 1140, 1141, 1142, 1143] (by decide +kernel) (by decide +kernel)
set_option maxRecDepth 20000 in
theorem gL_law_X11_get : GoodIn wsL_law (wsV RL 157 RX11 yX11_get wsX11_get) := goodIn_app (goodIn_of _ (by decide +kernel)) ggL_law_X11_get
set_option maxRecDepth 20000 in
theorem ggL_law_X10_fill : GoodIn wsL_law wsX10_fill := goodIn_r _ [1041, 46, 1042, 1043, 1044, 667, 1045, 1046, 666, 668, 1015, 1016, 1017, 1018, 52, 1019, 102, 320, 321, 322, 2, 323, 142, 21, 15, 324, 325, 326, 14, 327, 137, 328, 329, 330, 331, 165, 332, 333, 334, 20, 335, 336, 337, 338, 62, 339, 63, 340, 158, 159, 160, 341, 342, 209, 343, 344, 345, 346, 347, 348, 64, 65, 349, 350, 351, 352, 353, 354, 355, 356, 357, 208, 210, 211, 212, 213, 399, 400, 401, 402, 403, 404, 405, 406, 407, 408, 409, 410, 1087, 1088, 1089, 1090, 1091, 1092, 1093, 1094, 1095, 1096, 1097, 1098, 1099, 1100, 1101, 1102, 1103, 1104, 1180, 1181, 1144, 1145, 1146, 1147, 1148, 1149, 1150, 1151, 1152, 1153, 1154, 1155] (by decide +kernel) (by decide +kernel)
set_option maxRecDepth 20000 in
theorem gL_law_X10_fill : GoodIn wsL_law (wsV RL 158 RX10 yX10_fill wsX10_fill) := goodIn_app (goodIn_of _ (by decide +kernel)) ggL_law_X10_fill
set_option maxRecDepth 20000 in
theorem ggL_law_X11_fill : GoodIn wsL_law wsX11_fill := goodIn_r _ [1050, 124, 415, 125, 112, 1008, 1009, 5, 1010, 150, 151, 152, 416, 417, 418, 419, 373, 374, 375, 376, 188, 377, 378, 379, 380, 381, 149, 111, 382, 383, 384, 385, 386, 305, 306, 307, 387, 388, 389, 390, 109, 420, 421, 422, 423, 391, 392, 393, 394, 1105, 1106, 1107, 1108, 1109, 1110, 1111, 1112, 1113, 1114, 1115, 1116, 1117, 1118, 1119, 1120, 1121, 1122, 1123, 1124, 1125, 1126, 1127, 1128, 1129, 1130, 1131, 1132, 1133, 1134, 1135, 1136, 1137, 1138, 1139, 1140, 1141, 1142, 1143] (by decide +kernel) (by decide +kernel)
set_option maxRecDepth 20000 in
theorem gL_law_X11_fill : GoodIn wsL_law (wsV RL 161 RX11 yX11_fill wsX11_fill) := goodIn_app (goodIn_of _ (by decide +kernel)) ggL_law_X11_fill
set_option maxRecDepth 20000 in
theorem ggL_law_X10_judge : GoodIn wsL_law wsX10_judge := goodIn_r _ [1054, 46, 1042, 1015, 1016, 1017, 1018, 52, 1019, 102, 1055, 1056, 1057, 2, 1058, 48, 15, 263, 613, 614, 615, 616, 157, 158, 159, 14, 160, 137, 617, 618, 619, 620, 276, 621, 622, 623, 624, 166, 167, 168, 169, 57, 170, 320, 321, 322, 323, 142, 21, 324, 325, 326, 327, 328, 329, 330, 331, 165, 332, 333, 334, 20, 335, 336, 337, 338, 62, 339, 63, 340, 341, 342, 209, 343, 344, 345, 346, 347, 348, 64, 65, 349, 350, 351, 352, 353, 354, 355, 356, 357, 208, 210, 211, 212, 213, 741, 742, 743, 744, 407, 408, 409, 410, 1087, 1088, 1089, 1090, 1091, 1092, 1093, 1094, 1095, 1096, 1097, 1098, 1099, 1100, 1101, 1102, 1103, 1104, 1180, 1181, 1144, 1145, 1146, 1147, 1148, 1149, 1150, 1151, 1152, 1153, 1154, 1155] (by decide +kernel) (by decide +kernel)
set_option maxRecDepth 20000 in
theorem gL_law_X10_judge : GoodIn wsL_law (wsV RL 162 RX10 yX10_judge wsX10_judge) := goodIn_app (goodIn_of _ (by decide +kernel)) ggL_law_X10_judge
set_option maxRecDepth 20000 in
theorem ggL_law_X11_judge : GoodIn wsL_law wsX11_judge := goodIn_r _ [1062, 124, 125, 1008, 1009, 5, 1010, 150, 151, 152, 416, 417, 418, 419, 415, 112, 373, 374, 375, 376, 188, 377, 378, 379, 380, 381, 149, 111, 382, 383, 384, 385, 386, 305, 306, 307, 387, 388, 389, 390, 109, 420, 421, 422, 423, 391, 392, 393, 394, 1063, 1064, 1065, 1066, 629, 630, 631, 632, 180, 181, 182, 183, 1105, 1106, 1107, 1108, 1109, 1110, 1111, 1112, 1113, 1114, 1115, 1116, 1117, 1118, 1119, 1120, 1121, 1122, 1123, 1124, 1125, 1126, 1127, 1128, 1129, 1130, 1131, 1132, 1133, 1134, 1135, 1136, 1137, 1138, 1139, 1140, 1141, 1142, 1143] (by decide +kernel) (by decide +kernel)
set_option maxRecDepth 20000 in
theorem gL_law_X11_judge : GoodIn wsL_law (wsV RL 165 RX11 yX11_judge wsX11_judge) := goodIn_app (goodIn_of _ (by decide +kernel)) ggL_law_X11_judge
set_option maxRecDepth 20000 in
theorem ggL_law_X10_image : GoodIn wsL_law wsX10_image := goodIn_r _ [1070, 16, 15, 1071, 263, 774, 775, 776, 14, 777, 137, 165, 56, 778, 779, 780, 781, 57, 58, 1087, 1088, 1089, 1090, 1091, 1092, 1093, 1094, 1095, 1096, 1097, 1098, 1099, 1100, 1101, 1102, 1103, 1104, 1144, 1145, 1146, 1147, 1148] (by decide +kernel) (by decide +kernel)
set_option maxRecDepth 20000 in
theorem gL_law_X10_image : GoodIn wsL_law (wsV RL 166 RX10 yX10_image wsX10_image) := goodIn_app (goodIn_of _ (by decide +kernel)) ggL_law_X10_image
set_option maxRecDepth 20000 in
theorem ggL_law_X11_image : GoodIn wsL_law wsX11_image := goodIn_r _ [1075, 1076, 149, 1077, 188, 1078, 108, 126, 109, 127, 110, 128, 880, 881, 5, 882, 1105, 1106, 1107, 1108, 1109, 1110, 1111, 1112, 1113, 1114, 1115, 1116, 1117, 1118, 1119, 1120, 1121, 1122, 1123, 1124, 1125, 1126, 1127, 1128, 1129, 1130, 1131, 1132, 1133, 1134, 1135, 1136, 1137, 1138, 1139, 1140, 1141, 1142, 1143] (by decide +kernel) (by decide +kernel)
set_option maxRecDepth 20000 in
theorem gL_law_X11_image : GoodIn wsL_law (wsV RL 169 RX11 yX11_image wsX11_image) := goodIn_app (goodIn_of _ (by decide +kernel)) ggL_law_X11_image
set_option maxRecDepth 20000 in
theorem ggL_law_X10_undo : GoodIn wsL_law wsX10_undo := goodIn_r _ [1082, 1071, 15, 16, 263, 774, 775, 776, 14, 777, 137, 165, 56, 778, 779, 780, 781, 57, 58, 138, 139, 140, 2, 141, 142, 143, 144, 1087, 1088, 1089, 1090, 1091, 1092, 1093, 1094, 1095, 1096, 1097, 1098, 1099, 1100, 1101, 1102, 1103, 1104, 1144, 1145, 1146, 1147, 1148] (by decide +kernel) (by decide +kernel)
set_option maxRecDepth 20000 in
theorem gL_law_X10_undo : GoodIn wsL_law (wsV RL 170 RX10 yX10_undo wsX10_undo) := goodIn_app (goodIn_of _ (by decide +kernel)) ggL_law_X10_undo
set_option maxRecDepth 20000 in
theorem ggL_law_X11_undo : GoodIn wsL_law wsX11_undo := goodIn_r _ [1086, 1076, 1077, 149, 1078, 188, 126, 108, 127, 109, 128, 110, 880, 881, 5, 882, 1105, 1106, 1107, 1108, 1109, 1110, 1111, 1112, 1113, 1114, 1115, 1116, 1117, 1118, 1119, 1120, 1121, 1122, 1123, 1124, 1125, 1126, 1127, 1128, 1129, 1130, 1131, 1132, 1133, 1134, 1135, 1136, 1137, 1138, 1139, 1140, 1141, 1142, 1143] (by decide +kernel) (by decide +kernel)
set_option maxRecDepth 20000 in
theorem gL_law_X11_undo : GoodIn wsL_law (wsV RL 173 RX11 yX11_undo wsX11_undo) := goodIn_app (goodIn_of _ (by decide +kernel)) ggL_law_X11_undo
theorem dL_law_0 : decode cL_law 0 = .ok (.new 7, 3) := by decide +kernel
theorem dL_law_3 : decode cL_law 3 = .ok (.dup, 1) := by decide +kernel
theorem dL_law_4 : decode cL_law 4 = .ok (.invokespecial 9, 3) := by decide +kernel
theorem dL_law_7 : decode cL_law 7 = .ok (.astore_n 1, 1) := by decide +kernel
theorem dL_law_8 : decode cL_law 8 = .ok (.new 10, 3) := by decide +kernel
theorem dL_law_11 : decode cL_law 11 = .ok (.dup, 1) := by decide +kernel
theorem dL_law_12 : decode cL_law 12 = .ok (.invokespecial 12, 3) := by decide +kernel
theorem dL_law_15 : decode cL_law 15 = .ok (.astore_n 2, 1) := by decide +kernel
theorem dL_law_16 : decode cL_law 16 = .ok (.iconst 0, 1) := by decide +kernel
theorem dL_law_17 : decode cL_law 17 = .ok (.istore_n 3, 1) := by decide +kernel
theorem dL_law_18 : decode cL_law 18 = .ok (.iload_n 3, 1) := by decide +kernel
theorem dL_law_19 : decode cL_law 19 = .ok (.aload_n 0, 1) := by decide +kernel
theorem dL_law_20 : decode cL_law 20 = .ok (.arraylength, 1) := by decide +kernel
theorem dL_law_21 : decode cL_law 21 = .ok (.iconst 4, 1) := by decide +kernel
theorem dL_law_22 : decode cL_law 22 = .ok (.isub, 1) := by decide +kernel
theorem dL_law_23 : decode cL_law 23 = .ok (.if_icmp .gt 1215, 3) := by decide +kernel
theorem dL_law_26 : decode cL_law 26 = .ok (.aload_n 0, 1) := by decide +kernel
theorem dL_law_27 : decode cL_law 27 = .ok (.iload_n 3, 1) := by decide +kernel
theorem dL_law_28 : decode cL_law 28 = .ok (.iaload, 1) := by decide +kernel
theorem dL_law_29 : decode cL_law 29 = .ok (.bipush 63, 2) := by decide +kernel
theorem dL_law_31 : decode cL_law 31 = .ok (.iand, 1) := by decide +kernel
theorem dL_law_32 : decode cL_law 32 = .ok (.tableswitch 1200 0 38 #[172, 195, 238, 271, 304, 327, 350, 373, 396, 419, 462, 475, 498, 531, 545, 568, 591, 614, 637, 660, 693, 716, 739, 762, 785, 828, 851, 864, 877, 900, 933, 966, 999, 1032, 1075, 1108, 1141, 1174, 1187], 172) := by decide +kernel
theorem dL_law_204 : decode cL_law 204 = .ok (.aload_n 1, 1) := by decide +kernel
theorem dL_law_205 : decode cL_law 205 = .ok (.aload_n 0, 1) := by decide +kernel
theorem dL_law_206 : decode cL_law 206 = .ok (.iload_n 3, 1) := by decide +kernel
theorem dL_law_207 : decode cL_law 207 = .ok (.iconst 1, 1) := by decide +kernel
theorem dL_law_208 : decode cL_law 208 = .ok (.iadd, 1) := by decide +kernel
theorem dL_law_209 : decode cL_law 209 = .ok (.iaload, 1) := by decide +kernel
theorem dL_law_210 : decode cL_law 210 = .ok (.invokevirtual 13, 3) := by decide +kernel
theorem dL_law_213 : decode cL_law 213 = .ok (.aload_n 2, 1) := by decide +kernel
theorem dL_law_214 : decode cL_law 214 = .ok (.aload_n 0, 1) := by decide +kernel
theorem dL_law_215 : decode cL_law 215 = .ok (.iload_n 3, 1) := by decide +kernel
theorem dL_law_216 : decode cL_law 216 = .ok (.iconst 1, 1) := by decide +kernel
theorem dL_law_217 : decode cL_law 217 = .ok (.iadd, 1) := by decide +kernel
theorem dL_law_218 : decode cL_law 218 = .ok (.iaload, 1) := by decide +kernel
theorem dL_law_219 : decode cL_law 219 = .ok (.invokevirtual 17, 3) := by decide +kernel
theorem dL_law_222 : decode cL_law 222 = .ok (.if_icmp .eq 1010, 3) := by decide +kernel
theorem dL_law_225 : decode cL_law 225 = .ok (.iconst 0, 1) := by decide +kernel
theorem dL_law_226 : decode cL_law 226 = .ok (.ireturn, 1) := by decide +kernel
theorem dL_law_227 : decode cL_law 227 = .ok (.aload_n 1, 1) := by decide +kernel
theorem dL_law_228 : decode cL_law 228 = .ok (.aload_n 0, 1) := by decide +kernel
theorem dL_law_229 : decode cL_law 229 = .ok (.iload_n 3, 1) := by decide +kernel
theorem dL_law_230 : decode cL_law 230 = .ok (.iconst 1, 1) := by decide +kernel
theorem dL_law_231 : decode cL_law 231 = .ok (.iadd, 1) := by decide +kernel
theorem dL_law_232 : decode cL_law 232 = .ok (.iaload, 1) := by decide +kernel
theorem dL_law_233 : decode cL_law 233 = .ok (.aload_n 0, 1) := by decide +kernel
theorem dL_law_234 : decode cL_law 234 = .ok (.iload_n 3, 1) := by decide +kernel
theorem dL_law_235 : decode cL_law 235 = .ok (.iconst 2, 1) := by decide +kernel
theorem dL_law_236 : decode cL_law 236 = .ok (.iadd, 1) := by decide +kernel
theorem dL_law_237 : decode cL_law 237 = .ok (.iaload, 1) := by decide +kernel
theorem dL_law_238 : decode cL_law 238 = .ok (.aload_n 0, 1) := by decide +kernel
theorem dL_law_239 : decode cL_law 239 = .ok (.iload_n 3, 1) := by decide +kernel
theorem dL_law_240 : decode cL_law 240 = .ok (.iconst 3, 1) := by decide +kernel
theorem dL_law_241 : decode cL_law 241 = .ok (.iadd, 1) := by decide +kernel
theorem dL_law_242 : decode cL_law 242 = .ok (.iaload, 1) := by decide +kernel
theorem dL_law_243 : decode cL_law 243 = .ok (.invokevirtual 18, 3) := by decide +kernel
theorem dL_law_246 : decode cL_law 246 = .ok (.aload_n 2, 1) := by decide +kernel
theorem dL_law_247 : decode cL_law 247 = .ok (.aload_n 0, 1) := by decide +kernel
theorem dL_law_248 : decode cL_law 248 = .ok (.iload_n 3, 1) := by decide +kernel
theorem dL_law_249 : decode cL_law 249 = .ok (.iconst 1, 1) := by decide +kernel
theorem dL_law_250 : decode cL_law 250 = .ok (.iadd, 1) := by decide +kernel
theorem dL_law_251 : decode cL_law 251 = .ok (.iaload, 1) := by decide +kernel
theorem dL_law_252 : decode cL_law 252 = .ok (.aload_n 0, 1) := by decide +kernel
theorem dL_law_253 : decode cL_law 253 = .ok (.iload_n 3, 1) := by decide +kernel
theorem dL_law_254 : decode cL_law 254 = .ok (.iconst 2, 1) := by decide +kernel
theorem dL_law_255 : decode cL_law 255 = .ok (.iadd, 1) := by decide +kernel
theorem dL_law_256 : decode cL_law 256 = .ok (.iaload, 1) := by decide +kernel
theorem dL_law_257 : decode cL_law 257 = .ok (.aload_n 0, 1) := by decide +kernel
theorem dL_law_258 : decode cL_law 258 = .ok (.iload_n 3, 1) := by decide +kernel
theorem dL_law_259 : decode cL_law 259 = .ok (.iconst 3, 1) := by decide +kernel
theorem dL_law_260 : decode cL_law 260 = .ok (.iadd, 1) := by decide +kernel
theorem dL_law_261 : decode cL_law 261 = .ok (.iaload, 1) := by decide +kernel
theorem dL_law_262 : decode cL_law 262 = .ok (.invokevirtual 22, 3) := by decide +kernel
theorem dL_law_265 : decode cL_law 265 = .ok (.if_icmp .eq 967, 3) := by decide +kernel
theorem dL_law_268 : decode cL_law 268 = .ok (.iconst 0, 1) := by decide +kernel
theorem dL_law_269 : decode cL_law 269 = .ok (.ireturn, 1) := by decide +kernel
theorem dL_law_270 : decode cL_law 270 = .ok (.aload_n 1, 1) := by decide +kernel
theorem dL_law_271 : decode cL_law 271 = .ok (.aload_n 0, 1) := by decide +kernel
theorem dL_law_272 : decode cL_law 272 = .ok (.iload_n 3, 1) := by decide +kernel
theorem dL_law_273 : decode cL_law 273 = .ok (.iconst 1, 1) := by decide +kernel
theorem dL_law_274 : decode cL_law 274 = .ok (.iadd, 1) := by decide +kernel
theorem dL_law_275 : decode cL_law 275 = .ok (.iaload, 1) := by decide +kernel
theorem dL_law_276 : decode cL_law 276 = .ok (.aload_n 0, 1) := by decide +kernel
theorem dL_law_277 : decode cL_law 277 = .ok (.iload_n 3, 1) := by decide +kernel
theorem dL_law_278 : decode cL_law 278 = .ok (.iconst 2, 1) := by decide +kernel
theorem dL_law_279 : decode cL_law 279 = .ok (.iadd, 1) := by decide +kernel
theorem dL_law_280 : decode cL_law 280 = .ok (.iaload, 1) := by decide +kernel
theorem dL_law_281 : decode cL_law 281 = .ok (.invokevirtual 23, 3) := by decide +kernel
theorem dL_law_284 : decode cL_law 284 = .ok (.aload_n 2, 1) := by decide +kernel
theorem dL_law_285 : decode cL_law 285 = .ok (.aload_n 0, 1) := by decide +kernel
theorem dL_law_286 : decode cL_law 286 = .ok (.iload_n 3, 1) := by decide +kernel
theorem dL_law_287 : decode cL_law 287 = .ok (.iconst 1, 1) := by decide +kernel
theorem dL_law_288 : decode cL_law 288 = .ok (.iadd, 1) := by decide +kernel
theorem dL_law_289 : decode cL_law 289 = .ok (.iaload, 1) := by decide +kernel
theorem dL_law_290 : decode cL_law 290 = .ok (.aload_n 0, 1) := by decide +kernel
theorem dL_law_291 : decode cL_law 291 = .ok (.iload_n 3, 1) := by decide +kernel
theorem dL_law_292 : decode cL_law 292 = .ok (.iconst 2, 1) := by decide +kernel
theorem dL_law_293 : decode cL_law 293 = .ok (.iadd, 1) := by decide +kernel
theorem dL_law_294 : decode cL_law 294 = .ok (.iaload, 1) := by decide +kernel
theorem dL_law_295 : decode cL_law 295 = .ok (.invokevirtual 27, 3) := by decide +kernel
theorem dL_law_298 : decode cL_law 298 = .ok (.if_icmp .eq 934, 3) := by decide +kernel
theorem dL_law_301 : decode cL_law 301 = .ok (.iconst 0, 1) := by decide +kernel
theorem dL_law_302 : decode cL_law 302 = .ok (.ireturn, 1) := by decide +kernel
theorem dL_law_303 : decode cL_law 303 = .ok (.aload_n 1, 1) := by decide +kernel
theorem dL_law_304 : decode cL_law 304 = .ok (.aload_n 0, 1) := by decide +kernel
theorem dL_law_305 : decode cL_law 305 = .ok (.iload_n 3, 1) := by decide +kernel
theorem dL_law_306 : decode cL_law 306 = .ok (.iconst 1, 1) := by decide +kernel
theorem dL_law_307 : decode cL_law 307 = .ok (.iadd, 1) := by decide +kernel
theorem dL_law_308 : decode cL_law 308 = .ok (.iaload, 1) := by decide +kernel
theorem dL_law_309 : decode cL_law 309 = .ok (.aload_n 0, 1) := by decide +kernel
theorem dL_law_310 : decode cL_law 310 = .ok (.iload_n 3, 1) := by decide +kernel
theorem dL_law_311 : decode cL_law 311 = .ok (.iconst 2, 1) := by decide +kernel
theorem dL_law_312 : decode cL_law 312 = .ok (.iadd, 1) := by decide +kernel
theorem dL_law_313 : decode cL_law 313 = .ok (.iaload, 1) := by decide +kernel
theorem dL_law_314 : decode cL_law 314 = .ok (.invokevirtual 28, 3) := by decide +kernel
theorem dL_law_317 : decode cL_law 317 = .ok (.aload_n 2, 1) := by decide +kernel
theorem dL_law_318 : decode cL_law 318 = .ok (.aload_n 0, 1) := by decide +kernel
theorem dL_law_319 : decode cL_law 319 = .ok (.iload_n 3, 1) := by decide +kernel
theorem dL_law_320 : decode cL_law 320 = .ok (.iconst 1, 1) := by decide +kernel
theorem dL_law_321 : decode cL_law 321 = .ok (.iadd, 1) := by decide +kernel
theorem dL_law_322 : decode cL_law 322 = .ok (.iaload, 1) := by decide +kernel
theorem dL_law_323 : decode cL_law 323 = .ok (.aload_n 0, 1) := by decide +kernel
theorem dL_law_324 : decode cL_law 324 = .ok (.iload_n 3, 1) := by decide +kernel
theorem dL_law_325 : decode cL_law 325 = .ok (.iconst 2, 1) := by decide +kernel
theorem dL_law_326 : decode cL_law 326 = .ok (.iadd, 1) := by decide +kernel
theorem dL_law_327 : decode cL_law 327 = .ok (.iaload, 1) := by decide +kernel
theorem dL_law_328 : decode cL_law 328 = .ok (.invokevirtual 31, 3) := by decide +kernel
theorem dL_law_331 : decode cL_law 331 = .ok (.if_icmp .eq 901, 3) := by decide +kernel
theorem dL_law_334 : decode cL_law 334 = .ok (.iconst 0, 1) := by decide +kernel
theorem dL_law_335 : decode cL_law 335 = .ok (.ireturn, 1) := by decide +kernel
theorem dL_law_336 : decode cL_law 336 = .ok (.aload_n 1, 1) := by decide +kernel
theorem dL_law_337 : decode cL_law 337 = .ok (.aload_n 0, 1) := by decide +kernel
theorem dL_law_338 : decode cL_law 338 = .ok (.iload_n 3, 1) := by decide +kernel
theorem dL_law_339 : decode cL_law 339 = .ok (.iconst 1, 1) := by decide +kernel
theorem dL_law_340 : decode cL_law 340 = .ok (.iadd, 1) := by decide +kernel
theorem dL_law_341 : decode cL_law 341 = .ok (.iaload, 1) := by decide +kernel
theorem dL_law_342 : decode cL_law 342 = .ok (.invokevirtual 32, 3) := by decide +kernel
theorem dL_law_345 : decode cL_law 345 = .ok (.aload_n 2, 1) := by decide +kernel
theorem dL_law_346 : decode cL_law 346 = .ok (.aload_n 0, 1) := by decide +kernel
theorem dL_law_347 : decode cL_law 347 = .ok (.iload_n 3, 1) := by decide +kernel
theorem dL_law_348 : decode cL_law 348 = .ok (.iconst 1, 1) := by decide +kernel
theorem dL_law_349 : decode cL_law 349 = .ok (.iadd, 1) := by decide +kernel
theorem dL_law_350 : decode cL_law 350 = .ok (.iaload, 1) := by decide +kernel
theorem dL_law_351 : decode cL_law 351 = .ok (.invokevirtual 35, 3) := by decide +kernel
theorem dL_law_354 : decode cL_law 354 = .ok (.if_icmp .eq 878, 3) := by decide +kernel
theorem dL_law_357 : decode cL_law 357 = .ok (.iconst 0, 1) := by decide +kernel
theorem dL_law_358 : decode cL_law 358 = .ok (.ireturn, 1) := by decide +kernel
theorem dL_law_359 : decode cL_law 359 = .ok (.aload_n 1, 1) := by decide +kernel
theorem dL_law_360 : decode cL_law 360 = .ok (.aload_n 0, 1) := by decide +kernel
theorem dL_law_361 : decode cL_law 361 = .ok (.iload_n 3, 1) := by decide +kernel
theorem dL_law_362 : decode cL_law 362 = .ok (.iconst 1, 1) := by decide +kernel
theorem dL_law_363 : decode cL_law 363 = .ok (.iadd, 1) := by decide +kernel
theorem dL_law_364 : decode cL_law 364 = .ok (.iaload, 1) := by decide +kernel
theorem dL_law_365 : decode cL_law 365 = .ok (.invokevirtual 36, 3) := by decide +kernel
theorem dL_law_368 : decode cL_law 368 = .ok (.aload_n 2, 1) := by decide +kernel
theorem dL_law_369 : decode cL_law 369 = .ok (.aload_n 0, 1) := by decide +kernel
theorem dL_law_370 : decode cL_law 370 = .ok (.iload_n 3, 1) := by decide +kernel
theorem dL_law_371 : decode cL_law 371 = .ok (.iconst 1, 1) := by decide +kernel
theorem dL_law_372 : decode cL_law 372 = .ok (.iadd, 1) := by decide +kernel
theorem dL_law_373 : decode cL_law 373 = .ok (.iaload, 1) := by decide +kernel
theorem dL_law_374 : decode cL_law 374 = .ok (.invokevirtual 39, 3) := by decide +kernel
theorem dL_law_377 : decode cL_law 377 = .ok (.if_icmp .eq 855, 3) := by decide +kernel
theorem dL_law_380 : decode cL_law 380 = .ok (.iconst 0, 1) := by decide +kernel
theorem dL_law_381 : decode cL_law 381 = .ok (.ireturn, 1) := by decide +kernel
theorem dL_law_382 : decode cL_law 382 = .ok (.aload_n 1, 1) := by decide +kernel
theorem dL_law_383 : decode cL_law 383 = .ok (.aload_n 0, 1) := by decide +kernel
theorem dL_law_384 : decode cL_law 384 = .ok (.iload_n 3, 1) := by decide +kernel
theorem dL_law_385 : decode cL_law 385 = .ok (.iconst 1, 1) := by decide +kernel
theorem dL_law_386 : decode cL_law 386 = .ok (.iadd, 1) := by decide +kernel
theorem dL_law_387 : decode cL_law 387 = .ok (.iaload, 1) := by decide +kernel
theorem dL_law_388 : decode cL_law 388 = .ok (.invokevirtual 40, 3) := by decide +kernel
theorem dL_law_391 : decode cL_law 391 = .ok (.aload_n 2, 1) := by decide +kernel
theorem dL_law_392 : decode cL_law 392 = .ok (.aload_n 0, 1) := by decide +kernel
theorem dL_law_393 : decode cL_law 393 = .ok (.iload_n 3, 1) := by decide +kernel
theorem dL_law_394 : decode cL_law 394 = .ok (.iconst 1, 1) := by decide +kernel
theorem dL_law_395 : decode cL_law 395 = .ok (.iadd, 1) := by decide +kernel
theorem dL_law_396 : decode cL_law 396 = .ok (.iaload, 1) := by decide +kernel
theorem dL_law_397 : decode cL_law 397 = .ok (.invokevirtual 43, 3) := by decide +kernel
theorem dL_law_400 : decode cL_law 400 = .ok (.if_icmp .eq 832, 3) := by decide +kernel
theorem dL_law_403 : decode cL_law 403 = .ok (.iconst 0, 1) := by decide +kernel
theorem dL_law_404 : decode cL_law 404 = .ok (.ireturn, 1) := by decide +kernel
theorem dL_law_405 : decode cL_law 405 = .ok (.aload_n 1, 1) := by decide +kernel
theorem dL_law_406 : decode cL_law 406 = .ok (.aload_n 0, 1) := by decide +kernel
theorem dL_law_407 : decode cL_law 407 = .ok (.iload_n 3, 1) := by decide +kernel
theorem dL_law_408 : decode cL_law 408 = .ok (.iconst 1, 1) := by decide +kernel
theorem dL_law_409 : decode cL_law 409 = .ok (.iadd, 1) := by decide +kernel
theorem dL_law_410 : decode cL_law 410 = .ok (.iaload, 1) := by decide +kernel
theorem dL_law_411 : decode cL_law 411 = .ok (.invokevirtual 44, 3) := by decide +kernel
theorem dL_law_414 : decode cL_law 414 = .ok (.aload_n 2, 1) := by decide +kernel
theorem dL_law_415 : decode cL_law 415 = .ok (.aload_n 0, 1) := by decide +kernel
theorem dL_law_416 : decode cL_law 416 = .ok (.iload_n 3, 1) := by decide +kernel
theorem dL_law_417 : decode cL_law 417 = .ok (.iconst 1, 1) := by decide +kernel
theorem dL_law_418 : decode cL_law 418 = .ok (.iadd, 1) := by decide +kernel
theorem dL_law_419 : decode cL_law 419 = .ok (.iaload, 1) := by decide +kernel
theorem dL_law_420 : decode cL_law 420 = .ok (.invokevirtual 47, 3) := by decide +kernel
theorem dL_law_423 : decode cL_law 423 = .ok (.if_icmp .eq 809, 3) := by decide +kernel
theorem dL_law_426 : decode cL_law 426 = .ok (.iconst 0, 1) := by decide +kernel
theorem dL_law_427 : decode cL_law 427 = .ok (.ireturn, 1) := by decide +kernel
theorem dL_law_428 : decode cL_law 428 = .ok (.aload_n 1, 1) := by decide +kernel
theorem dL_law_429 : decode cL_law 429 = .ok (.aload_n 0, 1) := by decide +kernel
theorem dL_law_430 : decode cL_law 430 = .ok (.iload_n 3, 1) := by decide +kernel
theorem dL_law_431 : decode cL_law 431 = .ok (.iconst 1, 1) := by decide +kernel
theorem dL_law_432 : decode cL_law 432 = .ok (.iadd, 1) := by decide +kernel
theorem dL_law_433 : decode cL_law 433 = .ok (.iaload, 1) := by decide +kernel
theorem dL_law_434 : decode cL_law 434 = .ok (.invokevirtual 48, 3) := by decide +kernel
theorem dL_law_437 : decode cL_law 437 = .ok (.aload_n 2, 1) := by decide +kernel
theorem dL_law_438 : decode cL_law 438 = .ok (.aload_n 0, 1) := by decide +kernel
theorem dL_law_439 : decode cL_law 439 = .ok (.iload_n 3, 1) := by decide +kernel
theorem dL_law_440 : decode cL_law 440 = .ok (.iconst 1, 1) := by decide +kernel
theorem dL_law_441 : decode cL_law 441 = .ok (.iadd, 1) := by decide +kernel
theorem dL_law_442 : decode cL_law 442 = .ok (.iaload, 1) := by decide +kernel
theorem dL_law_443 : decode cL_law 443 = .ok (.invokevirtual 51, 3) := by decide +kernel
theorem dL_law_446 : decode cL_law 446 = .ok (.if_icmp .eq 786, 3) := by decide +kernel
theorem dL_law_449 : decode cL_law 449 = .ok (.iconst 0, 1) := by decide +kernel
theorem dL_law_450 : decode cL_law 450 = .ok (.ireturn, 1) := by decide +kernel
theorem dL_law_451 : decode cL_law 451 = .ok (.aload_n 1, 1) := by decide +kernel
theorem dL_law_452 : decode cL_law 452 = .ok (.aload_n 0, 1) := by decide +kernel
theorem dL_law_453 : decode cL_law 453 = .ok (.iload_n 3, 1) := by decide +kernel
theorem dL_law_454 : decode cL_law 454 = .ok (.iconst 1, 1) := by decide +kernel
theorem dL_law_455 : decode cL_law 455 = .ok (.iadd, 1) := by decide +kernel
theorem dL_law_456 : decode cL_law 456 = .ok (.iaload, 1) := by decide +kernel
theorem dL_law_457 : decode cL_law 457 = .ok (.aload_n 0, 1) := by decide +kernel
theorem dL_law_458 : decode cL_law 458 = .ok (.iload_n 3, 1) := by decide +kernel
theorem dL_law_459 : decode cL_law 459 = .ok (.iconst 2, 1) := by decide +kernel
theorem dL_law_460 : decode cL_law 460 = .ok (.iadd, 1) := by decide +kernel
theorem dL_law_461 : decode cL_law 461 = .ok (.iaload, 1) := by decide +kernel
theorem dL_law_462 : decode cL_law 462 = .ok (.aload_n 0, 1) := by decide +kernel
theorem dL_law_463 : decode cL_law 463 = .ok (.iload_n 3, 1) := by decide +kernel
theorem dL_law_464 : decode cL_law 464 = .ok (.iconst 3, 1) := by decide +kernel
theorem dL_law_465 : decode cL_law 465 = .ok (.iadd, 1) := by decide +kernel
theorem dL_law_466 : decode cL_law 466 = .ok (.iaload, 1) := by decide +kernel
theorem dL_law_467 : decode cL_law 467 = .ok (.invokevirtual 52, 3) := by decide +kernel
theorem dL_law_470 : decode cL_law 470 = .ok (.aload_n 2, 1) := by decide +kernel
theorem dL_law_471 : decode cL_law 471 = .ok (.aload_n 0, 1) := by decide +kernel
theorem dL_law_472 : decode cL_law 472 = .ok (.iload_n 3, 1) := by decide +kernel
theorem dL_law_473 : decode cL_law 473 = .ok (.iconst 1, 1) := by decide +kernel
theorem dL_law_474 : decode cL_law 474 = .ok (.iadd, 1) := by decide +kernel
theorem dL_law_475 : decode cL_law 475 = .ok (.iaload, 1) := by decide +kernel
theorem dL_law_476 : decode cL_law 476 = .ok (.aload_n 0, 1) := by decide +kernel
theorem dL_law_477 : decode cL_law 477 = .ok (.iload_n 3, 1) := by decide +kernel
theorem dL_law_478 : decode cL_law 478 = .ok (.iconst 2, 1) := by decide +kernel
theorem dL_law_479 : decode cL_law 479 = .ok (.iadd, 1) := by decide +kernel
theorem dL_law_480 : decode cL_law 480 = .ok (.iaload, 1) := by decide +kernel
theorem dL_law_481 : decode cL_law 481 = .ok (.aload_n 0, 1) := by decide +kernel
theorem dL_law_482 : decode cL_law 482 = .ok (.iload_n 3, 1) := by decide +kernel
theorem dL_law_483 : decode cL_law 483 = .ok (.iconst 3, 1) := by decide +kernel
theorem dL_law_484 : decode cL_law 484 = .ok (.iadd, 1) := by decide +kernel
theorem dL_law_485 : decode cL_law 485 = .ok (.iaload, 1) := by decide +kernel
theorem dL_law_486 : decode cL_law 486 = .ok (.invokevirtual 55, 3) := by decide +kernel
theorem dL_law_489 : decode cL_law 489 = .ok (.if_icmp .eq 743, 3) := by decide +kernel
theorem dL_law_492 : decode cL_law 492 = .ok (.iconst 0, 1) := by decide +kernel
theorem dL_law_493 : decode cL_law 493 = .ok (.ireturn, 1) := by decide +kernel
theorem dL_law_494 : decode cL_law 494 = .ok (.aload_n 1, 1) := by decide +kernel
theorem dL_law_495 : decode cL_law 495 = .ok (.invokevirtual 56, 3) := by decide +kernel
theorem dL_law_498 : decode cL_law 498 = .ok (.aload_n 2, 1) := by decide +kernel
theorem dL_law_499 : decode cL_law 499 = .ok (.invokevirtual 60, 3) := by decide +kernel
theorem dL_law_502 : decode cL_law 502 = .ok (.if_icmp .eq 730, 3) := by decide +kernel
theorem dL_law_505 : decode cL_law 505 = .ok (.iconst 0, 1) := by decide +kernel
theorem dL_law_506 : decode cL_law 506 = .ok (.ireturn, 1) := by decide +kernel
theorem dL_law_507 : decode cL_law 507 = .ok (.aload_n 1, 1) := by decide +kernel
theorem dL_law_508 : decode cL_law 508 = .ok (.aload_n 0, 1) := by decide +kernel
theorem dL_law_509 : decode cL_law 509 = .ok (.iload_n 3, 1) := by decide +kernel
theorem dL_law_510 : decode cL_law 510 = .ok (.iconst 1, 1) := by decide +kernel
theorem dL_law_511 : decode cL_law 511 = .ok (.iadd, 1) := by decide +kernel
theorem dL_law_512 : decode cL_law 512 = .ok (.iaload, 1) := by decide +kernel
theorem dL_law_513 : decode cL_law 513 = .ok (.invokevirtual 61, 3) := by decide +kernel
theorem dL_law_516 : decode cL_law 516 = .ok (.aload_n 2, 1) := by decide +kernel
theorem dL_law_517 : decode cL_law 517 = .ok (.aload_n 0, 1) := by decide +kernel
theorem dL_law_518 : decode cL_law 518 = .ok (.iload_n 3, 1) := by decide +kernel
theorem dL_law_519 : decode cL_law 519 = .ok (.iconst 1, 1) := by decide +kernel
theorem dL_law_520 : decode cL_law 520 = .ok (.iadd, 1) := by decide +kernel
theorem dL_law_521 : decode cL_law 521 = .ok (.iaload, 1) := by decide +kernel
theorem dL_law_522 : decode cL_law 522 = .ok (.invokevirtual 64, 3) := by decide +kernel
theorem dL_law_525 : decode cL_law 525 = .ok (.if_icmp .eq 707, 3) := by decide +kernel
theorem dL_law_528 : decode cL_law 528 = .ok (.iconst 0, 1) := by decide +kernel
theorem dL_law_529 : decode cL_law 529 = .ok (.ireturn, 1) := by decide +kernel
theorem dL_law_530 : decode cL_law 530 = .ok (.aload_n 1, 1) := by decide +kernel
theorem dL_law_531 : decode cL_law 531 = .ok (.aload_n 0, 1) := by decide +kernel
theorem dL_law_532 : decode cL_law 532 = .ok (.iload_n 3, 1) := by decide +kernel
theorem dL_law_533 : decode cL_law 533 = .ok (.iconst 1, 1) := by decide +kernel
theorem dL_law_534 : decode cL_law 534 = .ok (.iadd, 1) := by decide +kernel
theorem dL_law_535 : decode cL_law 535 = .ok (.iaload, 1) := by decide +kernel
theorem dL_law_536 : decode cL_law 536 = .ok (.aload_n 0, 1) := by decide +kernel
theorem dL_law_537 : decode cL_law 537 = .ok (.iload_n 3, 1) := by decide +kernel
theorem dL_law_538 : decode cL_law 538 = .ok (.iconst 2, 1) := by decide +kernel
theorem dL_law_539 : decode cL_law 539 = .ok (.iadd, 1) := by decide +kernel
theorem dL_law_540 : decode cL_law 540 = .ok (.iaload, 1) := by decide +kernel
theorem dL_law_541 : decode cL_law 541 = .ok (.invokevirtual 65, 3) := by decide +kernel
theorem dL_law_544 : decode cL_law 544 = .ok (.aload_n 2, 1) := by decide +kernel
theorem dL_law_545 : decode cL_law 545 = .ok (.aload_n 0, 1) := by decide +kernel
theorem dL_law_546 : decode cL_law 546 = .ok (.iload_n 3, 1) := by decide +kernel
theorem dL_law_547 : decode cL_law 547 = .ok (.iconst 1, 1) := by decide +kernel
theorem dL_law_548 : decode cL_law 548 = .ok (.iadd, 1) := by decide +kernel
theorem dL_law_549 : decode cL_law 549 = .ok (.iaload, 1) := by decide +kernel
theorem dL_law_550 : decode cL_law 550 = .ok (.aload_n 0, 1) := by decide +kernel
theorem dL_law_551 : decode cL_law 551 = .ok (.iload_n 3, 1) := by decide +kernel
theorem dL_law_552 : decode cL_law 552 = .ok (.iconst 2, 1) := by decide +kernel
theorem dL_law_553 : decode cL_law 553 = .ok (.iadd, 1) := by decide +kernel
theorem dL_law_554 : decode cL_law 554 = .ok (.iaload, 1) := by decide +kernel
theorem dL_law_555 : decode cL_law 555 = .ok (.invokevirtual 68, 3) := by decide +kernel
theorem dL_law_558 : decode cL_law 558 = .ok (.if_icmp .eq 674, 3) := by decide +kernel
theorem dL_law_561 : decode cL_law 561 = .ok (.iconst 0, 1) := by decide +kernel
theorem dL_law_562 : decode cL_law 562 = .ok (.ireturn, 1) := by decide +kernel
theorem dL_law_563 : decode cL_law 563 = .ok (.aload_n 1, 1) := by decide +kernel
theorem dL_law_564 : decode cL_law 564 = .ok (.invokevirtual 69, 3) := by decide +kernel
theorem dL_law_567 : decode cL_law 567 = .ok (.aload_n 2, 1) := by decide +kernel
theorem dL_law_568 : decode cL_law 568 = .ok (.invokevirtual 73, 3) := by decide +kernel
theorem dL_law_571 : decode cL_law 571 = .ok (.lcmp, 1) := by decide +kernel
theorem dL_law_572 : decode cL_law 572 = .ok (.ifCond .eq 660, 3) := by decide +kernel
theorem dL_law_575 : decode cL_law 575 = .ok (.iconst 0, 1) := by decide +kernel
theorem dL_law_576 : decode cL_law 576 = .ok (.ireturn, 1) := by decide +kernel
theorem dL_law_577 : decode cL_law 577 = .ok (.aload_n 1, 1) := by decide +kernel
theorem dL_law_578 : decode cL_law 578 = .ok (.aload_n 0, 1) := by decide +kernel
theorem dL_law_579 : decode cL_law 579 = .ok (.iload_n 3, 1) := by decide +kernel
theorem dL_law_580 : decode cL_law 580 = .ok (.iconst 1, 1) := by decide +kernel
theorem dL_law_581 : decode cL_law 581 = .ok (.iadd, 1) := by decide +kernel
theorem dL_law_582 : decode cL_law 582 = .ok (.iaload, 1) := by decide +kernel
theorem dL_law_583 : decode cL_law 583 = .ok (.invokevirtual 74, 3) := by decide +kernel
theorem dL_law_586 : decode cL_law 586 = .ok (.aload_n 2, 1) := by decide +kernel
theorem dL_law_587 : decode cL_law 587 = .ok (.aload_n 0, 1) := by decide +kernel
theorem dL_law_588 : decode cL_law 588 = .ok (.iload_n 3, 1) := by decide +kernel
theorem dL_law_589 : decode cL_law 589 = .ok (.iconst 1, 1) := by decide +kernel
theorem dL_law_590 : decode cL_law 590 = .ok (.iadd, 1) := by decide +kernel
theorem dL_law_591 : decode cL_law 591 = .ok (.iaload, 1) := by decide +kernel
theorem dL_law_592 : decode cL_law 592 = .ok (.invokevirtual 77, 3) := by decide +kernel
theorem dL_law_595 : decode cL_law 595 = .ok (.if_icmp .eq 637, 3) := by decide +kernel
theorem dL_law_598 : decode cL_law 598 = .ok (.iconst 0, 1) := by decide +kernel
theorem dL_law_599 : decode cL_law 599 = .ok (.ireturn, 1) := by decide +kernel
theorem dL_law_600 : decode cL_law 600 = .ok (.aload_n 1, 1) := by decide +kernel
theorem dL_law_601 : decode cL_law 601 = .ok (.aload_n 0, 1) := by decide +kernel
theorem dL_law_602 : decode cL_law 602 = .ok (.iload_n 3, 1) := by decide +kernel
theorem dL_law_603 : decode cL_law 603 = .ok (.iconst 1, 1) := by decide +kernel
theorem dL_law_604 : decode cL_law 604 = .ok (.iadd, 1) := by decide +kernel
theorem dL_law_605 : decode cL_law 605 = .ok (.iaload, 1) := by decide +kernel
theorem dL_law_606 : decode cL_law 606 = .ok (.invokevirtual 78, 3) := by decide +kernel
theorem dL_law_609 : decode cL_law 609 = .ok (.aload_n 2, 1) := by decide +kernel
theorem dL_law_610 : decode cL_law 610 = .ok (.aload_n 0, 1) := by decide +kernel
theorem dL_law_611 : decode cL_law 611 = .ok (.iload_n 3, 1) := by decide +kernel
theorem dL_law_612 : decode cL_law 612 = .ok (.iconst 1, 1) := by decide +kernel
theorem dL_law_613 : decode cL_law 613 = .ok (.iadd, 1) := by decide +kernel
theorem dL_law_614 : decode cL_law 614 = .ok (.iaload, 1) := by decide +kernel
theorem dL_law_615 : decode cL_law 615 = .ok (.invokevirtual 81, 3) := by decide +kernel
theorem dL_law_618 : decode cL_law 618 = .ok (.if_icmp .eq 614, 3) := by decide +kernel
theorem dL_law_621 : decode cL_law 621 = .ok (.iconst 0, 1) := by decide +kernel
theorem dL_law_622 : decode cL_law 622 = .ok (.ireturn, 1) := by decide +kernel
theorem dL_law_623 : decode cL_law 623 = .ok (.aload_n 1, 1) := by decide +kernel
theorem dL_law_624 : decode cL_law 624 = .ok (.aload_n 0, 1) := by decide +kernel
theorem dL_law_625 : decode cL_law 625 = .ok (.iload_n 3, 1) := by decide +kernel
theorem dL_law_626 : decode cL_law 626 = .ok (.iconst 1, 1) := by decide +kernel
theorem dL_law_627 : decode cL_law 627 = .ok (.iadd, 1) := by decide +kernel
theorem dL_law_628 : decode cL_law 628 = .ok (.iaload, 1) := by decide +kernel
theorem dL_law_629 : decode cL_law 629 = .ok (.invokevirtual 82, 3) := by decide +kernel
theorem dL_law_632 : decode cL_law 632 = .ok (.aload_n 2, 1) := by decide +kernel
theorem dL_law_633 : decode cL_law 633 = .ok (.aload_n 0, 1) := by decide +kernel
theorem dL_law_634 : decode cL_law 634 = .ok (.iload_n 3, 1) := by decide +kernel
theorem dL_law_635 : decode cL_law 635 = .ok (.iconst 1, 1) := by decide +kernel
theorem dL_law_636 : decode cL_law 636 = .ok (.iadd, 1) := by decide +kernel
theorem dL_law_637 : decode cL_law 637 = .ok (.iaload, 1) := by decide +kernel
theorem dL_law_638 : decode cL_law 638 = .ok (.invokevirtual 85, 3) := by decide +kernel
theorem dL_law_641 : decode cL_law 641 = .ok (.if_icmp .eq 591, 3) := by decide +kernel
theorem dL_law_644 : decode cL_law 644 = .ok (.iconst 0, 1) := by decide +kernel
theorem dL_law_645 : decode cL_law 645 = .ok (.ireturn, 1) := by decide +kernel
theorem dL_law_646 : decode cL_law 646 = .ok (.aload_n 1, 1) := by decide +kernel
theorem dL_law_647 : decode cL_law 647 = .ok (.aload_n 0, 1) := by decide +kernel
theorem dL_law_648 : decode cL_law 648 = .ok (.iload_n 3, 1) := by decide +kernel
theorem dL_law_649 : decode cL_law 649 = .ok (.iconst 1, 1) := by decide +kernel
theorem dL_law_650 : decode cL_law 650 = .ok (.iadd, 1) := by decide +kernel
theorem dL_law_651 : decode cL_law 651 = .ok (.iaload, 1) := by decide +kernel
theorem dL_law_652 : decode cL_law 652 = .ok (.invokevirtual 86, 3) := by decide +kernel
theorem dL_law_655 : decode cL_law 655 = .ok (.aload_n 2, 1) := by decide +kernel
theorem dL_law_656 : decode cL_law 656 = .ok (.aload_n 0, 1) := by decide +kernel
theorem dL_law_657 : decode cL_law 657 = .ok (.iload_n 3, 1) := by decide +kernel
theorem dL_law_658 : decode cL_law 658 = .ok (.iconst 1, 1) := by decide +kernel
theorem dL_law_659 : decode cL_law 659 = .ok (.iadd, 1) := by decide +kernel
theorem dL_law_660 : decode cL_law 660 = .ok (.iaload, 1) := by decide +kernel
theorem dL_law_661 : decode cL_law 661 = .ok (.invokevirtual 89, 3) := by decide +kernel
theorem dL_law_664 : decode cL_law 664 = .ok (.if_icmp .eq 568, 3) := by decide +kernel
theorem dL_law_667 : decode cL_law 667 = .ok (.iconst 0, 1) := by decide +kernel
theorem dL_law_668 : decode cL_law 668 = .ok (.ireturn, 1) := by decide +kernel
theorem dL_law_669 : decode cL_law 669 = .ok (.aload_n 1, 1) := by decide +kernel
theorem dL_law_670 : decode cL_law 670 = .ok (.aload_n 0, 1) := by decide +kernel
theorem dL_law_671 : decode cL_law 671 = .ok (.iload_n 3, 1) := by decide +kernel
theorem dL_law_672 : decode cL_law 672 = .ok (.iconst 1, 1) := by decide +kernel
theorem dL_law_673 : decode cL_law 673 = .ok (.iadd, 1) := by decide +kernel
theorem dL_law_674 : decode cL_law 674 = .ok (.iaload, 1) := by decide +kernel
theorem dL_law_675 : decode cL_law 675 = .ok (.invokevirtual 90, 3) := by decide +kernel
theorem dL_law_678 : decode cL_law 678 = .ok (.aload_n 2, 1) := by decide +kernel
theorem dL_law_679 : decode cL_law 679 = .ok (.aload_n 0, 1) := by decide +kernel
theorem dL_law_680 : decode cL_law 680 = .ok (.iload_n 3, 1) := by decide +kernel
theorem dL_law_681 : decode cL_law 681 = .ok (.iconst 1, 1) := by decide +kernel
theorem dL_law_682 : decode cL_law 682 = .ok (.iadd, 1) := by decide +kernel
theorem dL_law_683 : decode cL_law 683 = .ok (.iaload, 1) := by decide +kernel
theorem dL_law_684 : decode cL_law 684 = .ok (.invokevirtual 93, 3) := by decide +kernel
theorem dL_law_687 : decode cL_law 687 = .ok (.if_icmp .eq 545, 3) := by decide +kernel
theorem dL_law_690 : decode cL_law 690 = .ok (.iconst 0, 1) := by decide +kernel
theorem dL_law_691 : decode cL_law 691 = .ok (.ireturn, 1) := by decide +kernel
theorem dL_law_692 : decode cL_law 692 = .ok (.aload_n 1, 1) := by decide +kernel
theorem dL_law_693 : decode cL_law 693 = .ok (.aload_n 0, 1) := by decide +kernel
theorem dL_law_694 : decode cL_law 694 = .ok (.iload_n 3, 1) := by decide +kernel
theorem dL_law_695 : decode cL_law 695 = .ok (.iconst 1, 1) := by decide +kernel
theorem dL_law_696 : decode cL_law 696 = .ok (.iadd, 1) := by decide +kernel
theorem dL_law_697 : decode cL_law 697 = .ok (.iaload, 1) := by decide +kernel
theorem dL_law_698 : decode cL_law 698 = .ok (.aload_n 0, 1) := by decide +kernel
theorem dL_law_699 : decode cL_law 699 = .ok (.iload_n 3, 1) := by decide +kernel
theorem dL_law_700 : decode cL_law 700 = .ok (.iconst 2, 1) := by decide +kernel
theorem dL_law_701 : decode cL_law 701 = .ok (.iadd, 1) := by decide +kernel
theorem dL_law_702 : decode cL_law 702 = .ok (.iaload, 1) := by decide +kernel
theorem dL_law_703 : decode cL_law 703 = .ok (.invokevirtual 94, 3) := by decide +kernel
theorem dL_law_706 : decode cL_law 706 = .ok (.aload_n 2, 1) := by decide +kernel
theorem dL_law_707 : decode cL_law 707 = .ok (.aload_n 0, 1) := by decide +kernel
theorem dL_law_708 : decode cL_law 708 = .ok (.iload_n 3, 1) := by decide +kernel
theorem dL_law_709 : decode cL_law 709 = .ok (.iconst 1, 1) := by decide +kernel
theorem dL_law_710 : decode cL_law 710 = .ok (.iadd, 1) := by decide +kernel
theorem dL_law_711 : decode cL_law 711 = .ok (.iaload, 1) := by decide +kernel
theorem dL_law_712 : decode cL_law 712 = .ok (.aload_n 0, 1) := by decide +kernel
theorem dL_law_713 : decode cL_law 713 = .ok (.iload_n 3, 1) := by decide +kernel
theorem dL_law_714 : decode cL_law 714 = .ok (.iconst 2, 1) := by decide +kernel
theorem dL_law_715 : decode cL_law 715 = .ok (.iadd, 1) := by decide +kernel
theorem dL_law_716 : decode cL_law 716 = .ok (.iaload, 1) := by decide +kernel
theorem dL_law_717 : decode cL_law 717 = .ok (.invokevirtual 97, 3) := by decide +kernel
theorem dL_law_720 : decode cL_law 720 = .ok (.if_icmp .eq 512, 3) := by decide +kernel
theorem dL_law_723 : decode cL_law 723 = .ok (.iconst 0, 1) := by decide +kernel
theorem dL_law_724 : decode cL_law 724 = .ok (.ireturn, 1) := by decide +kernel
theorem dL_law_725 : decode cL_law 725 = .ok (.aload_n 1, 1) := by decide +kernel
theorem dL_law_726 : decode cL_law 726 = .ok (.aload_n 0, 1) := by decide +kernel
theorem dL_law_727 : decode cL_law 727 = .ok (.iload_n 3, 1) := by decide +kernel
theorem dL_law_728 : decode cL_law 728 = .ok (.iconst 1, 1) := by decide +kernel
theorem dL_law_729 : decode cL_law 729 = .ok (.iadd, 1) := by decide +kernel
theorem dL_law_730 : decode cL_law 730 = .ok (.iaload, 1) := by decide +kernel
theorem dL_law_731 : decode cL_law 731 = .ok (.invokevirtual 98, 3) := by decide +kernel
theorem dL_law_734 : decode cL_law 734 = .ok (.aload_n 2, 1) := by decide +kernel
theorem dL_law_735 : decode cL_law 735 = .ok (.aload_n 0, 1) := by decide +kernel
theorem dL_law_736 : decode cL_law 736 = .ok (.iload_n 3, 1) := by decide +kernel
theorem dL_law_737 : decode cL_law 737 = .ok (.iconst 1, 1) := by decide +kernel
theorem dL_law_738 : decode cL_law 738 = .ok (.iadd, 1) := by decide +kernel
theorem dL_law_739 : decode cL_law 739 = .ok (.iaload, 1) := by decide +kernel
theorem dL_law_740 : decode cL_law 740 = .ok (.invokevirtual 101, 3) := by decide +kernel
theorem dL_law_743 : decode cL_law 743 = .ok (.if_icmp .eq 489, 3) := by decide +kernel
theorem dL_law_746 : decode cL_law 746 = .ok (.iconst 0, 1) := by decide +kernel
theorem dL_law_747 : decode cL_law 747 = .ok (.ireturn, 1) := by decide +kernel
theorem dL_law_748 : decode cL_law 748 = .ok (.aload_n 1, 1) := by decide +kernel
theorem dL_law_749 : decode cL_law 749 = .ok (.aload_n 0, 1) := by decide +kernel
theorem dL_law_750 : decode cL_law 750 = .ok (.iload_n 3, 1) := by decide +kernel
theorem dL_law_751 : decode cL_law 751 = .ok (.iconst 1, 1) := by decide +kernel
theorem dL_law_752 : decode cL_law 752 = .ok (.iadd, 1) := by decide +kernel
theorem dL_law_753 : decode cL_law 753 = .ok (.iaload, 1) := by decide +kernel
theorem dL_law_754 : decode cL_law 754 = .ok (.invokevirtual 102, 3) := by decide +kernel
theorem dL_law_757 : decode cL_law 757 = .ok (.aload_n 2, 1) := by decide +kernel
theorem dL_law_758 : decode cL_law 758 = .ok (.aload_n 0, 1) := by decide +kernel
theorem dL_law_759 : decode cL_law 759 = .ok (.iload_n 3, 1) := by decide +kernel
theorem dL_law_760 : decode cL_law 760 = .ok (.iconst 1, 1) := by decide +kernel
theorem dL_law_761 : decode cL_law 761 = .ok (.iadd, 1) := by decide +kernel
theorem dL_law_762 : decode cL_law 762 = .ok (.iaload, 1) := by decide +kernel
theorem dL_law_763 : decode cL_law 763 = .ok (.invokevirtual 105, 3) := by decide +kernel
theorem dL_law_766 : decode cL_law 766 = .ok (.if_icmp .eq 466, 3) := by decide +kernel
theorem dL_law_769 : decode cL_law 769 = .ok (.iconst 0, 1) := by decide +kernel
theorem dL_law_770 : decode cL_law 770 = .ok (.ireturn, 1) := by decide +kernel
theorem dL_law_771 : decode cL_law 771 = .ok (.aload_n 1, 1) := by decide +kernel
theorem dL_law_772 : decode cL_law 772 = .ok (.aload_n 0, 1) := by decide +kernel
theorem dL_law_773 : decode cL_law 773 = .ok (.iload_n 3, 1) := by decide +kernel
theorem dL_law_774 : decode cL_law 774 = .ok (.iconst 1, 1) := by decide +kernel
theorem dL_law_775 : decode cL_law 775 = .ok (.iadd, 1) := by decide +kernel
theorem dL_law_776 : decode cL_law 776 = .ok (.iaload, 1) := by decide +kernel
theorem dL_law_777 : decode cL_law 777 = .ok (.invokevirtual 106, 3) := by decide +kernel
theorem dL_law_780 : decode cL_law 780 = .ok (.aload_n 2, 1) := by decide +kernel
theorem dL_law_781 : decode cL_law 781 = .ok (.aload_n 0, 1) := by decide +kernel
theorem dL_law_782 : decode cL_law 782 = .ok (.iload_n 3, 1) := by decide +kernel
theorem dL_law_783 : decode cL_law 783 = .ok (.iconst 1, 1) := by decide +kernel
theorem dL_law_784 : decode cL_law 784 = .ok (.iadd, 1) := by decide +kernel
theorem dL_law_785 : decode cL_law 785 = .ok (.iaload, 1) := by decide +kernel
theorem dL_law_786 : decode cL_law 786 = .ok (.invokevirtual 109, 3) := by decide +kernel
theorem dL_law_789 : decode cL_law 789 = .ok (.if_icmp .eq 443, 3) := by decide +kernel
theorem dL_law_792 : decode cL_law 792 = .ok (.iconst 0, 1) := by decide +kernel
theorem dL_law_793 : decode cL_law 793 = .ok (.ireturn, 1) := by decide +kernel
theorem dL_law_794 : decode cL_law 794 = .ok (.aload_n 1, 1) := by decide +kernel
theorem dL_law_795 : decode cL_law 795 = .ok (.aload_n 0, 1) := by decide +kernel
theorem dL_law_796 : decode cL_law 796 = .ok (.iload_n 3, 1) := by decide +kernel
theorem dL_law_797 : decode cL_law 797 = .ok (.iconst 1, 1) := by decide +kernel
theorem dL_law_798 : decode cL_law 798 = .ok (.iadd, 1) := by decide +kernel
theorem dL_law_799 : decode cL_law 799 = .ok (.iaload, 1) := by decide +kernel
theorem dL_law_800 : decode cL_law 800 = .ok (.invokevirtual 110, 3) := by decide +kernel
theorem dL_law_803 : decode cL_law 803 = .ok (.aload_n 2, 1) := by decide +kernel
theorem dL_law_804 : decode cL_law 804 = .ok (.aload_n 0, 1) := by decide +kernel
theorem dL_law_805 : decode cL_law 805 = .ok (.iload_n 3, 1) := by decide +kernel
theorem dL_law_806 : decode cL_law 806 = .ok (.iconst 1, 1) := by decide +kernel
theorem dL_law_807 : decode cL_law 807 = .ok (.iadd, 1) := by decide +kernel
theorem dL_law_808 : decode cL_law 808 = .ok (.iaload, 1) := by decide +kernel
theorem dL_law_809 : decode cL_law 809 = .ok (.invokevirtual 113, 3) := by decide +kernel
theorem dL_law_812 : decode cL_law 812 = .ok (.if_icmp .eq 420, 3) := by decide +kernel
theorem dL_law_815 : decode cL_law 815 = .ok (.iconst 0, 1) := by decide +kernel
theorem dL_law_816 : decode cL_law 816 = .ok (.ireturn, 1) := by decide +kernel
theorem dL_law_817 : decode cL_law 817 = .ok (.aload_n 1, 1) := by decide +kernel
theorem dL_law_818 : decode cL_law 818 = .ok (.aload_n 0, 1) := by decide +kernel
theorem dL_law_819 : decode cL_law 819 = .ok (.iload_n 3, 1) := by decide +kernel
theorem dL_law_820 : decode cL_law 820 = .ok (.iconst 1, 1) := by decide +kernel
theorem dL_law_821 : decode cL_law 821 = .ok (.iadd, 1) := by decide +kernel
theorem dL_law_822 : decode cL_law 822 = .ok (.iaload, 1) := by decide +kernel
theorem dL_law_823 : decode cL_law 823 = .ok (.aload_n 0, 1) := by decide +kernel
theorem dL_law_824 : decode cL_law 824 = .ok (.iload_n 3, 1) := by decide +kernel
theorem dL_law_825 : decode cL_law 825 = .ok (.iconst 2, 1) := by decide +kernel
theorem dL_law_826 : decode cL_law 826 = .ok (.iadd, 1) := by decide +kernel
theorem dL_law_827 : decode cL_law 827 = .ok (.iaload, 1) := by decide +kernel
theorem dL_law_828 : decode cL_law 828 = .ok (.aload_n 0, 1) := by decide +kernel
theorem dL_law_829 : decode cL_law 829 = .ok (.iload_n 3, 1) := by decide +kernel
theorem dL_law_830 : decode cL_law 830 = .ok (.iconst 3, 1) := by decide +kernel
theorem dL_law_831 : decode cL_law 831 = .ok (.iadd, 1) := by decide +kernel
theorem dL_law_832 : decode cL_law 832 = .ok (.iaload, 1) := by decide +kernel
theorem dL_law_833 : decode cL_law 833 = .ok (.invokevirtual 114, 3) := by decide +kernel
theorem dL_law_836 : decode cL_law 836 = .ok (.aload_n 2, 1) := by decide +kernel
theorem dL_law_837 : decode cL_law 837 = .ok (.aload_n 0, 1) := by decide +kernel
theorem dL_law_838 : decode cL_law 838 = .ok (.iload_n 3, 1) := by decide +kernel
theorem dL_law_839 : decode cL_law 839 = .ok (.iconst 1, 1) := by decide +kernel
theorem dL_law_840 : decode cL_law 840 = .ok (.iadd, 1) := by decide +kernel
theorem dL_law_841 : decode cL_law 841 = .ok (.iaload, 1) := by decide +kernel
theorem dL_law_842 : decode cL_law 842 = .ok (.aload_n 0, 1) := by decide +kernel
theorem dL_law_843 : decode cL_law 843 = .ok (.iload_n 3, 1) := by decide +kernel
theorem dL_law_844 : decode cL_law 844 = .ok (.iconst 2, 1) := by decide +kernel
theorem dL_law_845 : decode cL_law 845 = .ok (.iadd, 1) := by decide +kernel
theorem dL_law_846 : decode cL_law 846 = .ok (.iaload, 1) := by decide +kernel
theorem dL_law_847 : decode cL_law 847 = .ok (.aload_n 0, 1) := by decide +kernel
theorem dL_law_848 : decode cL_law 848 = .ok (.iload_n 3, 1) := by decide +kernel
theorem dL_law_849 : decode cL_law 849 = .ok (.iconst 3, 1) := by decide +kernel
theorem dL_law_850 : decode cL_law 850 = .ok (.iadd, 1) := by decide +kernel
theorem dL_law_851 : decode cL_law 851 = .ok (.iaload, 1) := by decide +kernel
theorem dL_law_852 : decode cL_law 852 = .ok (.invokevirtual 117, 3) := by decide +kernel
theorem dL_law_855 : decode cL_law 855 = .ok (.if_icmp .eq 377, 3) := by decide +kernel
theorem dL_law_858 : decode cL_law 858 = .ok (.iconst 0, 1) := by decide +kernel
theorem dL_law_859 : decode cL_law 859 = .ok (.ireturn, 1) := by decide +kernel
theorem dL_law_860 : decode cL_law 860 = .ok (.aload_n 1, 1) := by decide +kernel
theorem dL_law_861 : decode cL_law 861 = .ok (.aload_n 0, 1) := by decide +kernel
theorem dL_law_862 : decode cL_law 862 = .ok (.iload_n 3, 1) := by decide +kernel
theorem dL_law_863 : decode cL_law 863 = .ok (.iconst 1, 1) := by decide +kernel
theorem dL_law_864 : decode cL_law 864 = .ok (.iadd, 1) := by decide +kernel
theorem dL_law_865 : decode cL_law 865 = .ok (.iaload, 1) := by decide +kernel
theorem dL_law_866 : decode cL_law 866 = .ok (.invokevirtual 118, 3) := by decide +kernel
theorem dL_law_869 : decode cL_law 869 = .ok (.aload_n 2, 1) := by decide +kernel
theorem dL_law_870 : decode cL_law 870 = .ok (.aload_n 0, 1) := by decide +kernel
theorem dL_law_871 : decode cL_law 871 = .ok (.iload_n 3, 1) := by decide +kernel
theorem dL_law_872 : decode cL_law 872 = .ok (.iconst 1, 1) := by decide +kernel
theorem dL_law_873 : decode cL_law 873 = .ok (.iadd, 1) := by decide +kernel
theorem dL_law_874 : decode cL_law 874 = .ok (.iaload, 1) := by decide +kernel
theorem dL_law_875 : decode cL_law 875 = .ok (.invokevirtual 121, 3) := by decide +kernel
theorem dL_law_878 : decode cL_law 878 = .ok (.if_icmp .eq 354, 3) := by decide +kernel
theorem dL_law_881 : decode cL_law 881 = .ok (.iconst 0, 1) := by decide +kernel
theorem dL_law_882 : decode cL_law 882 = .ok (.ireturn, 1) := by decide +kernel
theorem dL_law_883 : decode cL_law 883 = .ok (.aload_n 1, 1) := by decide +kernel
theorem dL_law_884 : decode cL_law 884 = .ok (.invokevirtual 122, 3) := by decide +kernel
theorem dL_law_887 : decode cL_law 887 = .ok (.aload_n 2, 1) := by decide +kernel
theorem dL_law_888 : decode cL_law 888 = .ok (.invokevirtual 125, 3) := by decide +kernel
theorem dL_law_891 : decode cL_law 891 = .ok (.if_icmp .eq 341, 3) := by decide +kernel
theorem dL_law_894 : decode cL_law 894 = .ok (.iconst 0, 1) := by decide +kernel
theorem dL_law_895 : decode cL_law 895 = .ok (.ireturn, 1) := by decide +kernel
theorem dL_law_896 : decode cL_law 896 = .ok (.aload_n 1, 1) := by decide +kernel
theorem dL_law_897 : decode cL_law 897 = .ok (.invokevirtual 126, 3) := by decide +kernel
theorem dL_law_900 : decode cL_law 900 = .ok (.aload_n 2, 1) := by decide +kernel
theorem dL_law_901 : decode cL_law 901 = .ok (.invokevirtual 129, 3) := by decide +kernel
theorem dL_law_904 : decode cL_law 904 = .ok (.if_icmp .eq 328, 3) := by decide +kernel
theorem dL_law_907 : decode cL_law 907 = .ok (.iconst 0, 1) := by decide +kernel
theorem dL_law_908 : decode cL_law 908 = .ok (.ireturn, 1) := by decide +kernel
theorem dL_law_909 : decode cL_law 909 = .ok (.aload_n 1, 1) := by decide +kernel
theorem dL_law_910 : decode cL_law 910 = .ok (.aload_n 0, 1) := by decide +kernel
theorem dL_law_911 : decode cL_law 911 = .ok (.iload_n 3, 1) := by decide +kernel
theorem dL_law_912 : decode cL_law 912 = .ok (.iconst 1, 1) := by decide +kernel
theorem dL_law_913 : decode cL_law 913 = .ok (.iadd, 1) := by decide +kernel
theorem dL_law_914 : decode cL_law 914 = .ok (.iaload, 1) := by decide +kernel
theorem dL_law_915 : decode cL_law 915 = .ok (.invokevirtual 130, 3) := by decide +kernel
theorem dL_law_918 : decode cL_law 918 = .ok (.aload_n 2, 1) := by decide +kernel
theorem dL_law_919 : decode cL_law 919 = .ok (.aload_n 0, 1) := by decide +kernel
theorem dL_law_920 : decode cL_law 920 = .ok (.iload_n 3, 1) := by decide +kernel
theorem dL_law_921 : decode cL_law 921 = .ok (.iconst 1, 1) := by decide +kernel
theorem dL_law_922 : decode cL_law 922 = .ok (.iadd, 1) := by decide +kernel
theorem dL_law_923 : decode cL_law 923 = .ok (.iaload, 1) := by decide +kernel
theorem dL_law_924 : decode cL_law 924 = .ok (.invokevirtual 133, 3) := by decide +kernel
theorem dL_law_927 : decode cL_law 927 = .ok (.if_icmp .eq 305, 3) := by decide +kernel
theorem dL_law_930 : decode cL_law 930 = .ok (.iconst 0, 1) := by decide +kernel
theorem dL_law_931 : decode cL_law 931 = .ok (.ireturn, 1) := by decide +kernel
theorem dL_law_932 : decode cL_law 932 = .ok (.aload_n 1, 1) := by decide +kernel
theorem dL_law_933 : decode cL_law 933 = .ok (.aload_n 0, 1) := by decide +kernel
theorem dL_law_934 : decode cL_law 934 = .ok (.iload_n 3, 1) := by decide +kernel
theorem dL_law_935 : decode cL_law 935 = .ok (.iconst 1, 1) := by decide +kernel
theorem dL_law_936 : decode cL_law 936 = .ok (.iadd, 1) := by decide +kernel
theorem dL_law_937 : decode cL_law 937 = .ok (.iaload, 1) := by decide +kernel
theorem dL_law_938 : decode cL_law 938 = .ok (.aload_n 0, 1) := by decide +kernel
theorem dL_law_939 : decode cL_law 939 = .ok (.iload_n 3, 1) := by decide +kernel
theorem dL_law_940 : decode cL_law 940 = .ok (.iconst 2, 1) := by decide +kernel
theorem dL_law_941 : decode cL_law 941 = .ok (.iadd, 1) := by decide +kernel
theorem dL_law_942 : decode cL_law 942 = .ok (.iaload, 1) := by decide +kernel
theorem dL_law_943 : decode cL_law 943 = .ok (.invokevirtual 134, 3) := by decide +kernel
theorem dL_law_946 : decode cL_law 946 = .ok (.aload_n 2, 1) := by decide +kernel
theorem dL_law_947 : decode cL_law 947 = .ok (.aload_n 0, 1) := by decide +kernel
theorem dL_law_948 : decode cL_law 948 = .ok (.iload_n 3, 1) := by decide +kernel
theorem dL_law_949 : decode cL_law 949 = .ok (.iconst 1, 1) := by decide +kernel
theorem dL_law_950 : decode cL_law 950 = .ok (.iadd, 1) := by decide +kernel
theorem dL_law_951 : decode cL_law 951 = .ok (.iaload, 1) := by decide +kernel
theorem dL_law_952 : decode cL_law 952 = .ok (.aload_n 0, 1) := by decide +kernel
theorem dL_law_953 : decode cL_law 953 = .ok (.iload_n 3, 1) := by decide +kernel
theorem dL_law_954 : decode cL_law 954 = .ok (.iconst 2, 1) := by decide +kernel
theorem dL_law_955 : decode cL_law 955 = .ok (.iadd, 1) := by decide +kernel
theorem dL_law_956 : decode cL_law 956 = .ok (.iaload, 1) := by decide +kernel
theorem dL_law_957 : decode cL_law 957 = .ok (.invokevirtual 137, 3) := by decide +kernel
theorem dL_law_960 : decode cL_law 960 = .ok (.if_icmp .eq 272, 3) := by decide +kernel
theorem dL_law_963 : decode cL_law 963 = .ok (.iconst 0, 1) := by decide +kernel
theorem dL_law_964 : decode cL_law 964 = .ok (.ireturn, 1) := by decide +kernel
theorem dL_law_965 : decode cL_law 965 = .ok (.aload_n 1, 1) := by decide +kernel
theorem dL_law_966 : decode cL_law 966 = .ok (.aload_n 0, 1) := by decide +kernel
theorem dL_law_967 : decode cL_law 967 = .ok (.iload_n 3, 1) := by decide +kernel
theorem dL_law_968 : decode cL_law 968 = .ok (.iconst 1, 1) := by decide +kernel
theorem dL_law_969 : decode cL_law 969 = .ok (.iadd, 1) := by decide +kernel
theorem dL_law_970 : decode cL_law 970 = .ok (.iaload, 1) := by decide +kernel
theorem dL_law_971 : decode cL_law 971 = .ok (.aload_n 0, 1) := by decide +kernel
theorem dL_law_972 : decode cL_law 972 = .ok (.iload_n 3, 1) := by decide +kernel
theorem dL_law_973 : decode cL_law 973 = .ok (.iconst 2, 1) := by decide +kernel
theorem dL_law_974 : decode cL_law 974 = .ok (.iadd, 1) := by decide +kernel
theorem dL_law_975 : decode cL_law 975 = .ok (.iaload, 1) := by decide +kernel
theorem dL_law_976 : decode cL_law 976 = .ok (.invokevirtual 138, 3) := by decide +kernel
theorem dL_law_979 : decode cL_law 979 = .ok (.aload_n 2, 1) := by decide +kernel
theorem dL_law_980 : decode cL_law 980 = .ok (.aload_n 0, 1) := by decide +kernel
theorem dL_law_981 : decode cL_law 981 = .ok (.iload_n 3, 1) := by decide +kernel
theorem dL_law_982 : decode cL_law 982 = .ok (.iconst 1, 1) := by decide +kernel
theorem dL_law_983 : decode cL_law 983 = .ok (.iadd, 1) := by decide +kernel
theorem dL_law_984 : decode cL_law 984 = .ok (.iaload, 1) := by decide +kernel
theorem dL_law_985 : decode cL_law 985 = .ok (.aload_n 0, 1) := by decide +kernel
theorem dL_law_986 : decode cL_law 986 = .ok (.iload_n 3, 1) := by decide +kernel
theorem dL_law_987 : decode cL_law 987 = .ok (.iconst 2, 1) := by decide +kernel
theorem dL_law_988 : decode cL_law 988 = .ok (.iadd, 1) := by decide +kernel
theorem dL_law_989 : decode cL_law 989 = .ok (.iaload, 1) := by decide +kernel
theorem dL_law_990 : decode cL_law 990 = .ok (.invokevirtual 141, 3) := by decide +kernel
theorem dL_law_993 : decode cL_law 993 = .ok (.if_icmp .eq 239, 3) := by decide +kernel
theorem dL_law_996 : decode cL_law 996 = .ok (.iconst 0, 1) := by decide +kernel
theorem dL_law_997 : decode cL_law 997 = .ok (.ireturn, 1) := by decide +kernel
theorem dL_law_998 : decode cL_law 998 = .ok (.aload_n 1, 1) := by decide +kernel
theorem dL_law_999 : decode cL_law 999 = .ok (.aload_n 0, 1) := by decide +kernel
theorem dL_law_1000 : decode cL_law 1000 = .ok (.iload_n 3, 1) := by decide +kernel
theorem dL_law_1001 : decode cL_law 1001 = .ok (.iconst 1, 1) := by decide +kernel
theorem dL_law_1002 : decode cL_law 1002 = .ok (.iadd, 1) := by decide +kernel
theorem dL_law_1003 : decode cL_law 1003 = .ok (.iaload, 1) := by decide +kernel
theorem dL_law_1004 : decode cL_law 1004 = .ok (.aload_n 0, 1) := by decide +kernel
theorem dL_law_1005 : decode cL_law 1005 = .ok (.iload_n 3, 1) := by decide +kernel
theorem dL_law_1006 : decode cL_law 1006 = .ok (.iconst 2, 1) := by decide +kernel
theorem dL_law_1007 : decode cL_law 1007 = .ok (.iadd, 1) := by decide +kernel
theorem dL_law_1008 : decode cL_law 1008 = .ok (.iaload, 1) := by decide +kernel
theorem dL_law_1009 : decode cL_law 1009 = .ok (.invokevirtual 142, 3) := by decide +kernel
theorem dL_law_1012 : decode cL_law 1012 = .ok (.aload_n 2, 1) := by decide +kernel
theorem dL_law_1013 : decode cL_law 1013 = .ok (.aload_n 0, 1) := by decide +kernel
theorem dL_law_1014 : decode cL_law 1014 = .ok (.iload_n 3, 1) := by decide +kernel
theorem dL_law_1015 : decode cL_law 1015 = .ok (.iconst 1, 1) := by decide +kernel
theorem dL_law_1016 : decode cL_law 1016 = .ok (.iadd, 1) := by decide +kernel
theorem dL_law_1017 : decode cL_law 1017 = .ok (.iaload, 1) := by decide +kernel
theorem dL_law_1018 : decode cL_law 1018 = .ok (.aload_n 0, 1) := by decide +kernel
theorem dL_law_1019 : decode cL_law 1019 = .ok (.iload_n 3, 1) := by decide +kernel
theorem dL_law_1020 : decode cL_law 1020 = .ok (.iconst 2, 1) := by decide +kernel
theorem dL_law_1021 : decode cL_law 1021 = .ok (.iadd, 1) := by decide +kernel
theorem dL_law_1022 : decode cL_law 1022 = .ok (.iaload, 1) := by decide +kernel
theorem dL_law_1023 : decode cL_law 1023 = .ok (.invokevirtual 145, 3) := by decide +kernel
theorem dL_law_1026 : decode cL_law 1026 = .ok (.if_icmp .eq 206, 3) := by decide +kernel
theorem dL_law_1029 : decode cL_law 1029 = .ok (.iconst 0, 1) := by decide +kernel
theorem dL_law_1030 : decode cL_law 1030 = .ok (.ireturn, 1) := by decide +kernel
theorem dL_law_1031 : decode cL_law 1031 = .ok (.aload_n 1, 1) := by decide +kernel
theorem dL_law_1032 : decode cL_law 1032 = .ok (.aload_n 0, 1) := by decide +kernel
theorem dL_law_1033 : decode cL_law 1033 = .ok (.iload_n 3, 1) := by decide +kernel
theorem dL_law_1034 : decode cL_law 1034 = .ok (.iconst 1, 1) := by decide +kernel
theorem dL_law_1035 : decode cL_law 1035 = .ok (.iadd, 1) := by decide +kernel
theorem dL_law_1036 : decode cL_law 1036 = .ok (.iaload, 1) := by decide +kernel
theorem dL_law_1037 : decode cL_law 1037 = .ok (.aload_n 0, 1) := by decide +kernel
theorem dL_law_1038 : decode cL_law 1038 = .ok (.iload_n 3, 1) := by decide +kernel
theorem dL_law_1039 : decode cL_law 1039 = .ok (.iconst 2, 1) := by decide +kernel
theorem dL_law_1040 : decode cL_law 1040 = .ok (.iadd, 1) := by decide +kernel
theorem dL_law_1041 : decode cL_law 1041 = .ok (.iaload, 1) := by decide +kernel
theorem dL_law_1042 : decode cL_law 1042 = .ok (.invokevirtual 146, 3) := by decide +kernel
theorem dL_law_1045 : decode cL_law 1045 = .ok (.aload_n 2, 1) := by decide +kernel
theorem dL_law_1046 : decode cL_law 1046 = .ok (.aload_n 0, 1) := by decide +kernel
theorem dL_law_1047 : decode cL_law 1047 = .ok (.iload_n 3, 1) := by decide +kernel
theorem dL_law_1048 : decode cL_law 1048 = .ok (.iconst 1, 1) := by decide +kernel
theorem dL_law_1049 : decode cL_law 1049 = .ok (.iadd, 1) := by decide +kernel
theorem dL_law_1050 : decode cL_law 1050 = .ok (.iaload, 1) := by decide +kernel
theorem dL_law_1051 : decode cL_law 1051 = .ok (.aload_n 0, 1) := by decide +kernel
theorem dL_law_1052 : decode cL_law 1052 = .ok (.iload_n 3, 1) := by decide +kernel
theorem dL_law_1053 : decode cL_law 1053 = .ok (.iconst 2, 1) := by decide +kernel
theorem dL_law_1054 : decode cL_law 1054 = .ok (.iadd, 1) := by decide +kernel
theorem dL_law_1055 : decode cL_law 1055 = .ok (.iaload, 1) := by decide +kernel
theorem dL_law_1056 : decode cL_law 1056 = .ok (.invokevirtual 149, 3) := by decide +kernel
theorem dL_law_1059 : decode cL_law 1059 = .ok (.if_icmp .eq 173, 3) := by decide +kernel
theorem dL_law_1062 : decode cL_law 1062 = .ok (.iconst 0, 1) := by decide +kernel
theorem dL_law_1063 : decode cL_law 1063 = .ok (.ireturn, 1) := by decide +kernel
theorem dL_law_1064 : decode cL_law 1064 = .ok (.aload_n 1, 1) := by decide +kernel
theorem dL_law_1065 : decode cL_law 1065 = .ok (.aload_n 0, 1) := by decide +kernel
theorem dL_law_1066 : decode cL_law 1066 = .ok (.iload_n 3, 1) := by decide +kernel
theorem dL_law_1067 : decode cL_law 1067 = .ok (.iconst 1, 1) := by decide +kernel
theorem dL_law_1068 : decode cL_law 1068 = .ok (.iadd, 1) := by decide +kernel
theorem dL_law_1069 : decode cL_law 1069 = .ok (.iaload, 1) := by decide +kernel
theorem dL_law_1070 : decode cL_law 1070 = .ok (.aload_n 0, 1) := by decide +kernel
theorem dL_law_1071 : decode cL_law 1071 = .ok (.iload_n 3, 1) := by decide +kernel
theorem dL_law_1072 : decode cL_law 1072 = .ok (.iconst 2, 1) := by decide +kernel
theorem dL_law_1073 : decode cL_law 1073 = .ok (.iadd, 1) := by decide +kernel
theorem dL_law_1074 : decode cL_law 1074 = .ok (.iaload, 1) := by decide +kernel
theorem dL_law_1075 : decode cL_law 1075 = .ok (.aload_n 0, 1) := by decide +kernel
theorem dL_law_1076 : decode cL_law 1076 = .ok (.iload_n 3, 1) := by decide +kernel
theorem dL_law_1077 : decode cL_law 1077 = .ok (.iconst 3, 1) := by decide +kernel
theorem dL_law_1078 : decode cL_law 1078 = .ok (.iadd, 1) := by decide +kernel
theorem dL_law_1079 : decode cL_law 1079 = .ok (.iaload, 1) := by decide +kernel
theorem dL_law_1080 : decode cL_law 1080 = .ok (.invokevirtual 150, 3) := by decide +kernel
theorem dL_law_1083 : decode cL_law 1083 = .ok (.aload_n 2, 1) := by decide +kernel
theorem dL_law_1084 : decode cL_law 1084 = .ok (.aload_n 0, 1) := by decide +kernel
theorem dL_law_1085 : decode cL_law 1085 = .ok (.iload_n 3, 1) := by decide +kernel
theorem dL_law_1086 : decode cL_law 1086 = .ok (.iconst 1, 1) := by decide +kernel
theorem dL_law_1087 : decode cL_law 1087 = .ok (.iadd, 1) := by decide +kernel
theorem dL_law_1088 : decode cL_law 1088 = .ok (.iaload, 1) := by decide +kernel
theorem dL_law_1089 : decode cL_law 1089 = .ok (.aload_n 0, 1) := by decide +kernel
theorem dL_law_1090 : decode cL_law 1090 = .ok (.iload_n 3, 1) := by decide +kernel
theorem dL_law_1091 : decode cL_law 1091 = .ok (.iconst 2, 1) := by decide +kernel
theorem dL_law_1092 : decode cL_law 1092 = .ok (.iadd, 1) := by decide +kernel
theorem dL_law_1093 : decode cL_law 1093 = .ok (.iaload, 1) := by decide +kernel
theorem dL_law_1094 : decode cL_law 1094 = .ok (.aload_n 0, 1) := by decide +kernel
theorem dL_law_1095 : decode cL_law 1095 = .ok (.iload_n 3, 1) := by decide +kernel
theorem dL_law_1096 : decode cL_law 1096 = .ok (.iconst 3, 1) := by decide +kernel
theorem dL_law_1097 : decode cL_law 1097 = .ok (.iadd, 1) := by decide +kernel
theorem dL_law_1098 : decode cL_law 1098 = .ok (.iaload, 1) := by decide +kernel
theorem dL_law_1099 : decode cL_law 1099 = .ok (.invokevirtual 153, 3) := by decide +kernel
theorem dL_law_1102 : decode cL_law 1102 = .ok (.if_icmp .eq 130, 3) := by decide +kernel
theorem dL_law_1105 : decode cL_law 1105 = .ok (.iconst 0, 1) := by decide +kernel
theorem dL_law_1106 : decode cL_law 1106 = .ok (.ireturn, 1) := by decide +kernel
theorem dL_law_1107 : decode cL_law 1107 = .ok (.aload_n 1, 1) := by decide +kernel
theorem dL_law_1108 : decode cL_law 1108 = .ok (.aload_n 0, 1) := by decide +kernel
theorem dL_law_1109 : decode cL_law 1109 = .ok (.iload_n 3, 1) := by decide +kernel
theorem dL_law_1110 : decode cL_law 1110 = .ok (.iconst 1, 1) := by decide +kernel
theorem dL_law_1111 : decode cL_law 1111 = .ok (.iadd, 1) := by decide +kernel
theorem dL_law_1112 : decode cL_law 1112 = .ok (.iaload, 1) := by decide +kernel
theorem dL_law_1113 : decode cL_law 1113 = .ok (.aload_n 0, 1) := by decide +kernel
theorem dL_law_1114 : decode cL_law 1114 = .ok (.iload_n 3, 1) := by decide +kernel
theorem dL_law_1115 : decode cL_law 1115 = .ok (.iconst 2, 1) := by decide +kernel
theorem dL_law_1116 : decode cL_law 1116 = .ok (.iadd, 1) := by decide +kernel
theorem dL_law_1117 : decode cL_law 1117 = .ok (.iaload, 1) := by decide +kernel
theorem dL_law_1118 : decode cL_law 1118 = .ok (.invokevirtual 154, 3) := by decide +kernel
theorem dL_law_1121 : decode cL_law 1121 = .ok (.aload_n 2, 1) := by decide +kernel
theorem dL_law_1122 : decode cL_law 1122 = .ok (.aload_n 0, 1) := by decide +kernel
theorem dL_law_1123 : decode cL_law 1123 = .ok (.iload_n 3, 1) := by decide +kernel
theorem dL_law_1124 : decode cL_law 1124 = .ok (.iconst 1, 1) := by decide +kernel
theorem dL_law_1125 : decode cL_law 1125 = .ok (.iadd, 1) := by decide +kernel
theorem dL_law_1126 : decode cL_law 1126 = .ok (.iaload, 1) := by decide +kernel
theorem dL_law_1127 : decode cL_law 1127 = .ok (.aload_n 0, 1) := by decide +kernel
theorem dL_law_1128 : decode cL_law 1128 = .ok (.iload_n 3, 1) := by decide +kernel
theorem dL_law_1129 : decode cL_law 1129 = .ok (.iconst 2, 1) := by decide +kernel
theorem dL_law_1130 : decode cL_law 1130 = .ok (.iadd, 1) := by decide +kernel
theorem dL_law_1131 : decode cL_law 1131 = .ok (.iaload, 1) := by decide +kernel
theorem dL_law_1132 : decode cL_law 1132 = .ok (.invokevirtual 157, 3) := by decide +kernel
theorem dL_law_1135 : decode cL_law 1135 = .ok (.if_icmp .eq 97, 3) := by decide +kernel
theorem dL_law_1138 : decode cL_law 1138 = .ok (.iconst 0, 1) := by decide +kernel
theorem dL_law_1139 : decode cL_law 1139 = .ok (.ireturn, 1) := by decide +kernel
theorem dL_law_1140 : decode cL_law 1140 = .ok (.aload_n 1, 1) := by decide +kernel
theorem dL_law_1141 : decode cL_law 1141 = .ok (.aload_n 0, 1) := by decide +kernel
theorem dL_law_1142 : decode cL_law 1142 = .ok (.iload_n 3, 1) := by decide +kernel
theorem dL_law_1143 : decode cL_law 1143 = .ok (.iconst 1, 1) := by decide +kernel
theorem dL_law_1144 : decode cL_law 1144 = .ok (.iadd, 1) := by decide +kernel
theorem dL_law_1145 : decode cL_law 1145 = .ok (.iaload, 1) := by decide +kernel
theorem dL_law_1146 : decode cL_law 1146 = .ok (.aload_n 0, 1) := by decide +kernel
theorem dL_law_1147 : decode cL_law 1147 = .ok (.iload_n 3, 1) := by decide +kernel
theorem dL_law_1148 : decode cL_law 1148 = .ok (.iconst 2, 1) := by decide +kernel
theorem dL_law_1149 : decode cL_law 1149 = .ok (.iadd, 1) := by decide +kernel
theorem dL_law_1150 : decode cL_law 1150 = .ok (.iaload, 1) := by decide +kernel
theorem dL_law_1151 : decode cL_law 1151 = .ok (.invokevirtual 158, 3) := by decide +kernel
theorem dL_law_1154 : decode cL_law 1154 = .ok (.aload_n 2, 1) := by decide +kernel
theorem dL_law_1155 : decode cL_law 1155 = .ok (.aload_n 0, 1) := by decide +kernel
theorem dL_law_1156 : decode cL_law 1156 = .ok (.iload_n 3, 1) := by decide +kernel
theorem dL_law_1157 : decode cL_law 1157 = .ok (.iconst 1, 1) := by decide +kernel
theorem dL_law_1158 : decode cL_law 1158 = .ok (.iadd, 1) := by decide +kernel
theorem dL_law_1159 : decode cL_law 1159 = .ok (.iaload, 1) := by decide +kernel
theorem dL_law_1160 : decode cL_law 1160 = .ok (.aload_n 0, 1) := by decide +kernel
theorem dL_law_1161 : decode cL_law 1161 = .ok (.iload_n 3, 1) := by decide +kernel
theorem dL_law_1162 : decode cL_law 1162 = .ok (.iconst 2, 1) := by decide +kernel
theorem dL_law_1163 : decode cL_law 1163 = .ok (.iadd, 1) := by decide +kernel
theorem dL_law_1164 : decode cL_law 1164 = .ok (.iaload, 1) := by decide +kernel
theorem dL_law_1165 : decode cL_law 1165 = .ok (.invokevirtual 161, 3) := by decide +kernel
theorem dL_law_1168 : decode cL_law 1168 = .ok (.if_icmp .eq 64, 3) := by decide +kernel
theorem dL_law_1171 : decode cL_law 1171 = .ok (.iconst 0, 1) := by decide +kernel
theorem dL_law_1172 : decode cL_law 1172 = .ok (.ireturn, 1) := by decide +kernel
theorem dL_law_1173 : decode cL_law 1173 = .ok (.aload_n 1, 1) := by decide +kernel
theorem dL_law_1174 : decode cL_law 1174 = .ok (.aload_n 0, 1) := by decide +kernel
theorem dL_law_1175 : decode cL_law 1175 = .ok (.iload_n 3, 1) := by decide +kernel
theorem dL_law_1176 : decode cL_law 1176 = .ok (.iconst 1, 1) := by decide +kernel
theorem dL_law_1177 : decode cL_law 1177 = .ok (.iadd, 1) := by decide +kernel
theorem dL_law_1178 : decode cL_law 1178 = .ok (.iaload, 1) := by decide +kernel
theorem dL_law_1179 : decode cL_law 1179 = .ok (.aload_n 0, 1) := by decide +kernel
theorem dL_law_1180 : decode cL_law 1180 = .ok (.iload_n 3, 1) := by decide +kernel
theorem dL_law_1181 : decode cL_law 1181 = .ok (.iconst 2, 1) := by decide +kernel
theorem dL_law_1182 : decode cL_law 1182 = .ok (.iadd, 1) := by decide +kernel
theorem dL_law_1183 : decode cL_law 1183 = .ok (.iaload, 1) := by decide +kernel
theorem dL_law_1184 : decode cL_law 1184 = .ok (.invokevirtual 162, 3) := by decide +kernel
theorem dL_law_1187 : decode cL_law 1187 = .ok (.aload_n 2, 1) := by decide +kernel
theorem dL_law_1188 : decode cL_law 1188 = .ok (.aload_n 0, 1) := by decide +kernel
theorem dL_law_1189 : decode cL_law 1189 = .ok (.iload_n 3, 1) := by decide +kernel
theorem dL_law_1190 : decode cL_law 1190 = .ok (.iconst 1, 1) := by decide +kernel
theorem dL_law_1191 : decode cL_law 1191 = .ok (.iadd, 1) := by decide +kernel
theorem dL_law_1192 : decode cL_law 1192 = .ok (.iaload, 1) := by decide +kernel
theorem dL_law_1193 : decode cL_law 1193 = .ok (.aload_n 0, 1) := by decide +kernel
theorem dL_law_1194 : decode cL_law 1194 = .ok (.iload_n 3, 1) := by decide +kernel
theorem dL_law_1195 : decode cL_law 1195 = .ok (.iconst 2, 1) := by decide +kernel
theorem dL_law_1196 : decode cL_law 1196 = .ok (.iadd, 1) := by decide +kernel
theorem dL_law_1197 : decode cL_law 1197 = .ok (.iaload, 1) := by decide +kernel
theorem dL_law_1198 : decode cL_law 1198 = .ok (.invokevirtual 165, 3) := by decide +kernel
theorem dL_law_1201 : decode cL_law 1201 = .ok (.if_icmp .eq 31, 3) := by decide +kernel
theorem dL_law_1204 : decode cL_law 1204 = .ok (.iconst 0, 1) := by decide +kernel
theorem dL_law_1205 : decode cL_law 1205 = .ok (.ireturn, 1) := by decide +kernel
theorem dL_law_1206 : decode cL_law 1206 = .ok (.aload_n 1, 1) := by decide +kernel
theorem dL_law_1207 : decode cL_law 1207 = .ok (.invokevirtual 166, 3) := by decide +kernel
theorem dL_law_1210 : decode cL_law 1210 = .ok (.aload_n 2, 1) := by decide +kernel
theorem dL_law_1211 : decode cL_law 1211 = .ok (.invokevirtual 169, 3) := by decide +kernel
theorem dL_law_1214 : decode cL_law 1214 = .ok (.if_icmp .eq 18, 3) := by decide +kernel
theorem dL_law_1217 : decode cL_law 1217 = .ok (.iconst 0, 1) := by decide +kernel
theorem dL_law_1218 : decode cL_law 1218 = .ok (.ireturn, 1) := by decide +kernel
theorem dL_law_1219 : decode cL_law 1219 = .ok (.aload_n 1, 1) := by decide +kernel
theorem dL_law_1220 : decode cL_law 1220 = .ok (.invokevirtual 170, 3) := by decide +kernel
theorem dL_law_1223 : decode cL_law 1223 = .ok (.aload_n 2, 1) := by decide +kernel
theorem dL_law_1224 : decode cL_law 1224 = .ok (.invokevirtual 173, 3) := by decide +kernel
theorem dL_law_1227 : decode cL_law 1227 = .ok (.if_icmp .eq 5, 3) := by decide +kernel
theorem dL_law_1230 : decode cL_law 1230 = .ok (.iconst 0, 1) := by decide +kernel
theorem dL_law_1231 : decode cL_law 1231 = .ok (.ireturn, 1) := by decide +kernel
theorem dL_law_1232 : decode cL_law 1232 = .ok (.iinc 3 4, 3) := by decide +kernel
theorem dL_law_1235 : decode cL_law 1235 = .ok (.goto (-1217), 3) := by decide +kernel
theorem dL_law_1238 : decode cL_law 1238 = .ok (.iconst 1, 1) := by decide +kernel
theorem dL_law_1239 : decode cL_law 1239 = .ok (.ireturn, 1) := by decide +kernel
