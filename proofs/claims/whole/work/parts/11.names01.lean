def wsX5_laysWays : List Cond := .code yX5_laysWays cX5_laysWays 4 none :: ([.fieldLink RX5 78 "PartSumsModel" "ways" "[I", .methodLink RX5 151 yX5_all, .instanceMethod yX5_all, .selects RX5 yX5_all yX5_all, .initialized RX5, .code yX5_all cX5_all 1 (some .int), .methodLink RX5 148 yX5_things, .instanceMethod yX5_things, .selects RX5 yX5_things yX5_things, .code yX5_things cX5_things 1 (some .int), .fieldLink RX5 56 "PartSumsModel" "now" "[I", .methodLink RX5 220 yX5_isTold, .instanceMethod yX5_isTold, .selects RX5 yX5_isTold yX5_isTold, .code yX5_isTold cX5_isTold 2 (some .boolean)] ++ wsX50)
def wsX5_partings_r1 : List Cond := [Cond.fieldLink RX5 1 "PartSumsModel" "thrown" "I", Cond.fieldLink RX5 78 "PartSumsModel" "ways" "[I", Cond.methodLink RX5 160 yX5_isSet, Cond.instanceMethod yX5_isSet, Cond.selects RX5 yX5_isSet yX5_isSet, Cond.initialized RX5, Cond.code yX5_isSet cX5_isSet 2 (some .boolean), Cond.methodLink RX5 148 yX5_things, Cond.instanceMethod yX5_things, Cond.selects RX5 yX5_things yX5_things, Cond.code yX5_things cX5_things 1 (some .int), Cond.fieldLink RX5 56 "PartSumsModel" "now" "[I", Cond.methodLink RX5 151 yX5_all, Cond.instanceMethod yX5_all, Cond.selects RX5 yX5_all yX5_all, Cond.code yX5_all cX5_all 1 (some .int), Cond.methodLink RX5 99 yX5_isIn, Cond.static yX5_isIn, Cond.code yX5_isIn cX5_isIn 3 (some .boolean), Cond.methodLink RX5 224 yX5_laysWays, Cond.instanceMethod yX5_laysWays, Cond.selects RX5 yX5_laysWays yX5_laysWays, Cond.code yX5_laysWays cX5_laysWays 4 none, Cond.methodLink RX5 220 yX5_isTold]
def wsX5_partings_r2 : List Cond := [Cond.instanceMethod yX5_isTold, Cond.selects RX5 yX5_isTold yX5_isTold, Cond.code yX5_isTold cX5_isTold 2 (some .boolean)]
def wsX5_partings : List Cond := .code yX5_partings cX5_partings 3 (some .int) :: ((wsX5_partings_r1 ++ wsX5_partings_r2) ++ wsX50)
def wsX5_laysPrices : List Cond := .code yX5_laysPrices cX5_laysPrices 4 none :: ([.fieldLink RX5 81 "PartSumsModel" "price" "[I", .fieldLink RX5 56 "PartSumsModel" "now" "[I", .methodLink RX5 151 yX5_all, .instanceMethod yX5_all, .selects RX5 yX5_all yX5_all, .initialized RX5, .code yX5_all cX5_all 1 (some .int), .methodLink RX5 148 yX5_things, .instanceMethod yX5_things, .selects RX5 yX5_things yX5_things, .code yX5_things cX5_things 1 (some .int), .methodLink RX5 220 yX5_isTold, .instanceMethod yX5_isTold, .selects RX5 yX5_isTold yX5_isTold, .code yX5_isTold cX5_isTold 2 (some .boolean)] ++ wsX50)
def wsX5_cheapest_r1 : List Cond := [Cond.fieldLink RX5 1 "PartSumsModel" "thrown" "I", Cond.fieldLink RX5 81 "PartSumsModel" "price" "[I", Cond.methodLink RX5 160 yX5_isSet, Cond.instanceMethod yX5_isSet, Cond.selects RX5 yX5_isSet yX5_isSet, Cond.initialized RX5, Cond.code yX5_isSet cX5_isSet 2 (some .boolean), Cond.methodLink RX5 148 yX5_things, Cond.instanceMethod yX5_things, Cond.selects RX5 yX5_things yX5_things, Cond.code yX5_things cX5_things 1 (some .int), Cond.fieldLink RX5 56 "PartSumsModel" "now" "[I", Cond.methodLink RX5 151 yX5_all, Cond.instanceMethod yX5_all, Cond.selects RX5 yX5_all yX5_all, Cond.code yX5_all cX5_all 1 (some .int), Cond.methodLink RX5 99 yX5_isIn, Cond.static yX5_isIn, Cond.code yX5_isIn cX5_isIn 3 (some .boolean), Cond.methodLink RX5 227 yX5_laysPrices, Cond.instanceMethod yX5_laysPrices, Cond.selects RX5 yX5_laysPrices yX5_laysPrices, Cond.code yX5_laysPrices cX5_laysPrices 4 none, Cond.methodLink RX5 220 yX5_isTold]
def wsX5_cheapest_r2 : List Cond := [Cond.instanceMethod yX5_isTold, Cond.selects RX5 yX5_isTold yX5_isTold, Cond.code yX5_isTold cX5_isTold 2 (some .boolean)]
def wsX5_cheapest : List Cond := .code yX5_cheapest cX5_cheapest 2 (some .int) :: ((wsX5_cheapest_r1 ++ wsX5_cheapest_r2) ++ wsX50)
def wsX5_part_r1 : List Cond := [Cond.fieldLink RX5 1 "PartSumsModel" "thrown" "I", Cond.fieldLink RX5 81 "PartSumsModel" "price" "[I", Cond.fieldLink RX5 56 "PartSumsModel" "now" "[I", Cond.methodLink RX5 160 yX5_isSet, Cond.instanceMethod yX5_isSet, Cond.selects RX5 yX5_isSet yX5_isSet, Cond.initialized RX5, Cond.code yX5_isSet cX5_isSet 2 (some .boolean), Cond.methodLink RX5 148 yX5_things, Cond.instanceMethod yX5_things, Cond.selects RX5 yX5_things yX5_things, Cond.code yX5_things cX5_things 1 (some .int), Cond.methodLink RX5 151 yX5_all, Cond.instanceMethod yX5_all, Cond.selects RX5 yX5_all yX5_all, Cond.code yX5_all cX5_all 1 (some .int), Cond.methodLink RX5 99 yX5_isIn, Cond.static yX5_isIn, Cond.code yX5_isIn cX5_isIn 3 (some .boolean), Cond.methodLink RX5 230 yX5_refuse, Cond.instanceMethod yX5_refuse, Cond.selects RX5 yX5_refuse yX5_refuse, Cond.code yX5_refuse cX5_refuse 1 (some .int), Cond.methodLink RX5 227 yX5_laysPrices]
def wsX5_part_r2 : List Cond := [Cond.instanceMethod yX5_laysPrices, Cond.selects RX5 yX5_laysPrices yX5_laysPrices, Cond.code yX5_laysPrices cX5_laysPrices 4 none, Cond.methodLink RX5 220 yX5_isTold, Cond.instanceMethod yX5_isTold, Cond.selects RX5 yX5_isTold yX5_isTold, Cond.code yX5_isTold cX5_isTold 2 (some .boolean)]
def wsX5_part : List Cond := .code yX5_part cX5_part 6 (some .int) :: ((wsX5_part_r1 ++ wsX5_part_r2) ++ wsX50)
def wsX5_laysPlain : List Cond := .code yX5_laysPlain cX5_laysPlain 4 none :: ([.fieldLink RX5 84 "PartSumsModel" "plain" "[I", .methodLink RX5 151 yX5_all, .instanceMethod yX5_all, .selects RX5 yX5_all yX5_all, .initialized RX5, .code yX5_all cX5_all 1 (some .int), .methodLink RX5 148 yX5_things, .instanceMethod yX5_things, .selects RX5 yX5_things yX5_things, .code yX5_things cX5_things 1 (some .int), .fieldLink RX5 56 "PartSumsModel" "now" "[I", .methodLink RX5 157 yX5_pairsIn, .instanceMethod yX5_pairsIn, .selects RX5 yX5_pairsIn yX5_pairsIn, .code yX5_pairsIn cX5_pairsIn 4 (some .int), .methodLink RX5 103 yX5_has, .static yX5_has, .code yX5_has cX5_has 2 (some .boolean), .methodLink RX5 111 yX5_bits, .static yX5_bits, .code yX5_bits cX5_bits 3 (some .int)] ++ wsX50)
def wsX5_fewest_r1 : List Cond := [Cond.fieldLink RX5 84 "PartSumsModel" "plain" "[I", Cond.methodLink RX5 233 yX5_laysPlain, Cond.instanceMethod yX5_laysPlain, Cond.selects RX5 yX5_laysPlain yX5_laysPlain, Cond.initialized RX5, Cond.code yX5_laysPlain cX5_laysPlain 4 none, Cond.methodLink RX5 151 yX5_all, Cond.instanceMethod yX5_all, Cond.selects RX5 yX5_all yX5_all, Cond.code yX5_all cX5_all 1 (some .int), Cond.methodLink RX5 148 yX5_things, Cond.instanceMethod yX5_things, Cond.selects RX5 yX5_things yX5_things, Cond.code yX5_things cX5_things 1 (some .int), Cond.fieldLink RX5 56 "PartSumsModel" "now" "[I", Cond.methodLink RX5 157 yX5_pairsIn, Cond.instanceMethod yX5_pairsIn, Cond.selects RX5 yX5_pairsIn yX5_pairsIn, Cond.code yX5_pairsIn cX5_pairsIn 4 (some .int), Cond.methodLink RX5 103 yX5_has, Cond.static yX5_has, Cond.code yX5_has cX5_has 2 (some .boolean), Cond.methodLink RX5 111 yX5_bits, Cond.static yX5_bits]
def wsX5_fewest_r2 : List Cond := [Cond.code yX5_bits cX5_bits 3 (some .int)]
def wsX5_fewest : List Cond := .code yX5_fewest cX5_fewest 3 (some .int) :: ((wsX5_fewest_r1 ++ wsX5_fewest_r2) ++ wsX50)
def wsX5_colours_r1 : List Cond := [Cond.fieldLink RX5 1 "PartSumsModel" "thrown" "I", Cond.methodLink RX5 160 yX5_isSet, Cond.instanceMethod yX5_isSet, Cond.selects RX5 yX5_isSet yX5_isSet, Cond.initialized RX5, Cond.code yX5_isSet cX5_isSet 2 (some .boolean), Cond.methodLink RX5 148 yX5_things, Cond.instanceMethod yX5_things, Cond.selects RX5 yX5_things yX5_things, Cond.code yX5_things cX5_things 1 (some .int), Cond.fieldLink RX5 56 "PartSumsModel" "now" "[I", Cond.methodLink RX5 151 yX5_all, Cond.instanceMethod yX5_all, Cond.selects RX5 yX5_all yX5_all, Cond.code yX5_all cX5_all 1 (some .int), Cond.methodLink RX5 99 yX5_isIn, Cond.static yX5_isIn, Cond.code yX5_isIn cX5_isIn 3 (some .boolean), Cond.methodLink RX5 236 yX5_fewest, Cond.instanceMethod yX5_fewest, Cond.selects RX5 yX5_fewest yX5_fewest, Cond.code yX5_fewest cX5_fewest 3 (some .int), Cond.fieldLink RX5 84 "PartSumsModel" "plain" "[I", Cond.methodLink RX5 233 yX5_laysPlain]
def wsX5_colours_r2 : List Cond := [Cond.instanceMethod yX5_laysPlain, Cond.selects RX5 yX5_laysPlain yX5_laysPlain, Cond.code yX5_laysPlain cX5_laysPlain 4 none, Cond.methodLink RX5 157 yX5_pairsIn, Cond.instanceMethod yX5_pairsIn, Cond.selects RX5 yX5_pairsIn yX5_pairsIn, Cond.code yX5_pairsIn cX5_pairsIn 4 (some .int), Cond.methodLink RX5 103 yX5_has, Cond.static yX5_has, Cond.code yX5_has cX5_has 2 (some .boolean), Cond.methodLink RX5 111 yX5_bits, Cond.static yX5_bits, Cond.code yX5_bits cX5_bits 3 (some .int)]
def wsX5_colours : List Cond := .code yX5_colours cX5_colours 2 (some .int) :: ((wsX5_colours_r1 ++ wsX5_colours_r2) ++ wsX50)
def wsX5_paints : List Cond := .code yX5_paints cX5_paints 7 (some .boolean) :: ([.fieldLink RX5 56 "PartSumsModel" "now" "[I", .fieldLink RX5 87 "PartSumsModel" "colourOf" "[I", .methodLink RX5 148 yX5_things, .instanceMethod yX5_things, .selects RX5 yX5_things yX5_things, .initialized RX5, .code yX5_things cX5_things 1 (some .int), .methodLink RX5 103 yX5_has, .static yX5_has, .code yX5_has cX5_has 2 (some .boolean), .methodLink RX5 239 yX5_paints, .instanceMethod yX5_paints, .selects RX5 yX5_paints yX5_paints] ++ wsX50)
def wsX5_colour_r1 : List Cond := [Cond.fieldLink RX5 1 "PartSumsModel" "thrown" "I", Cond.fieldLink RX5 87 "PartSumsModel" "colourOf" "[I", Cond.methodLink RX5 160 yX5_isSet, Cond.instanceMethod yX5_isSet, Cond.selects RX5 yX5_isSet yX5_isSet, Cond.initialized RX5, Cond.code yX5_isSet cX5_isSet 2 (some .boolean), Cond.methodLink RX5 148 yX5_things, Cond.instanceMethod yX5_things, Cond.selects RX5 yX5_things yX5_things, Cond.code yX5_things cX5_things 1 (some .int), Cond.fieldLink RX5 56 "PartSumsModel" "now" "[I", Cond.methodLink RX5 151 yX5_all, Cond.instanceMethod yX5_all, Cond.selects RX5 yX5_all yX5_all, Cond.code yX5_all cX5_all 1 (some .int), Cond.methodLink RX5 99 yX5_isIn, Cond.static yX5_isIn, Cond.code yX5_isIn cX5_isIn 3 (some .boolean), Cond.methodLink RX5 163 yX5_isThing, Cond.instanceMethod yX5_isThing, Cond.selects RX5 yX5_isThing yX5_isThing, Cond.code yX5_isThing cX5_isThing 2 (some .boolean), Cond.methodLink RX5 103 yX5_has]
def wsX5_colour_r2 : List Cond := [Cond.static yX5_has, Cond.code yX5_has cX5_has 2 (some .boolean), Cond.methodLink RX5 236 yX5_fewest, Cond.instanceMethod yX5_fewest, Cond.selects RX5 yX5_fewest yX5_fewest, Cond.code yX5_fewest cX5_fewest 3 (some .int), Cond.fieldLink RX5 84 "PartSumsModel" "plain" "[I", Cond.methodLink RX5 233 yX5_laysPlain, Cond.instanceMethod yX5_laysPlain, Cond.selects RX5 yX5_laysPlain yX5_laysPlain, Cond.code yX5_laysPlain cX5_laysPlain 4 none, Cond.methodLink RX5 157 yX5_pairsIn, Cond.instanceMethod yX5_pairsIn, Cond.selects RX5 yX5_pairsIn yX5_pairsIn, Cond.code yX5_pairsIn cX5_pairsIn 4 (some .int), Cond.methodLink RX5 111 yX5_bits, Cond.static yX5_bits, Cond.code yX5_bits cX5_bits 3 (some .int), Cond.methodLink RX5 239 yX5_paints, Cond.instanceMethod yX5_paints, Cond.selects RX5 yX5_paints yX5_paints, Cond.code yX5_paints cX5_paints 7 (some .boolean)]
def wsX5_colour : List Cond := .code yX5_colour cX5_colour 3 (some .int) :: ((wsX5_colour_r1 ++ wsX5_colour_r2) ++ wsX50)
def wsX5_colourings_r1 : List Cond := [Cond.fieldLink RX5 1 "PartSumsModel" "thrown" "I", Cond.constantLong RX5 242 (-1), Cond.fieldLink RX5 84 "PartSumsModel" "plain" "[I", Cond.methodLink RX5 160 yX5_isSet, Cond.instanceMethod yX5_isSet, Cond.selects RX5 yX5_isSet yX5_isSet, Cond.initialized RX5, Cond.code yX5_isSet cX5_isSet 2 (some .boolean), Cond.methodLink RX5 148 yX5_things, Cond.instanceMethod yX5_things, Cond.selects RX5 yX5_things yX5_things, Cond.code yX5_things cX5_things 1 (some .int), Cond.fieldLink RX5 56 "PartSumsModel" "now" "[I", Cond.methodLink RX5 151 yX5_all, Cond.instanceMethod yX5_all, Cond.selects RX5 yX5_all yX5_all, Cond.code yX5_all cX5_all 1 (some .int), Cond.methodLink RX5 99 yX5_isIn, Cond.static yX5_isIn, Cond.code yX5_isIn cX5_isIn 3 (some .boolean), Cond.methodLink RX5 233 yX5_laysPlain, Cond.instanceMethod yX5_laysPlain, Cond.selects RX5 yX5_laysPlain yX5_laysPlain, Cond.code yX5_laysPlain cX5_laysPlain 4 none]
def wsX5_colourings_r2 : List Cond := [Cond.methodLink RX5 157 yX5_pairsIn, Cond.instanceMethod yX5_pairsIn, Cond.selects RX5 yX5_pairsIn yX5_pairsIn, Cond.code yX5_pairsIn cX5_pairsIn 4 (some .int), Cond.methodLink RX5 103 yX5_has, Cond.static yX5_has, Cond.code yX5_has cX5_has 2 (some .boolean), Cond.methodLink RX5 111 yX5_bits, Cond.static yX5_bits, Cond.code yX5_bits cX5_bits 3 (some .int)]
def wsX5_colourings : List Cond := .code yX5_colourings cX5_colourings 8 (some .long) :: ((wsX5_colourings_r1 ++ wsX5_colourings_r2) ++ wsX50)
def wsX5_hangs_r1 : List Cond := [Cond.fieldLink RX5 1 "PartSumsModel" "thrown" "I", Cond.fieldLink RX5 90 "PartSumsModel" "hung" "[I", Cond.methodLink RX5 160 yX5_isSet, Cond.instanceMethod yX5_isSet, Cond.selects RX5 yX5_isSet yX5_isSet, Cond.initialized RX5, Cond.code yX5_isSet cX5_isSet 2 (some .boolean), Cond.methodLink RX5 148 yX5_things, Cond.instanceMethod yX5_things, Cond.selects RX5 yX5_things yX5_things, Cond.code yX5_things cX5_things 1 (some .int), Cond.fieldLink RX5 56 "PartSumsModel" "now" "[I", Cond.methodLink RX5 151 yX5_all, Cond.instanceMethod yX5_all, Cond.selects RX5 yX5_all yX5_all, Cond.code yX5_all cX5_all 1 (some .int), Cond.methodLink RX5 99 yX5_isIn, Cond.static yX5_isIn, Cond.code yX5_isIn cX5_isIn 3 (some .boolean), Cond.methodLink RX5 157 yX5_pairsIn, Cond.instanceMethod yX5_pairsIn, Cond.selects RX5 yX5_pairsIn yX5_pairsIn, Cond.code yX5_pairsIn cX5_pairsIn 4 (some .int), Cond.methodLink RX5 103 yX5_has]
def wsX5_hangs_r2 : List Cond := [Cond.static yX5_has, Cond.code yX5_has cX5_has 2 (some .boolean), Cond.methodLink RX5 111 yX5_bits, Cond.static yX5_bits, Cond.code yX5_bits cX5_bits 3 (some .int)]
def wsX5_hangs : List Cond := .code yX5_hangs cX5_hangs 4 (some .int) :: ((wsX5_hangs_r1 ++ wsX5_hangs_r2) ++ wsX50)
def wsX5_weigh_r1 : List Cond := [Cond.fieldLink RX5 1 "PartSumsModel" "thrown" "I", Cond.fieldLink RX5 56 "PartSumsModel" "now" "[I", Cond.methodLink RX5 160 yX5_isSet, Cond.instanceMethod yX5_isSet, Cond.selects RX5 yX5_isSet yX5_isSet, Cond.initialized RX5, Cond.code yX5_isSet cX5_isSet 2 (some .boolean), Cond.methodLink RX5 148 yX5_things, Cond.instanceMethod yX5_things, Cond.selects RX5 yX5_things yX5_things, Cond.code yX5_things cX5_things 1 (some .int), Cond.methodLink RX5 151 yX5_all, Cond.instanceMethod yX5_all, Cond.selects RX5 yX5_all yX5_all, Cond.code yX5_all cX5_all 1 (some .int), Cond.methodLink RX5 99 yX5_isIn, Cond.static yX5_isIn, Cond.code yX5_isIn cX5_isIn 3 (some .boolean), Cond.methodLink RX5 168 yX5_snap, Cond.instanceMethod yX5_snap, Cond.selects RX5 yX5_snap yX5_snap, Cond.code yX5_snap cX5_snap 2 none, Cond.fieldLink RX5 145 "PartSumsModel" "snapMany" "I", Cond.fieldLink RX5 65 "PartSumsModel" "snaps" "[I"]
def wsX5_weigh_r2 : List Cond := [Cond.methodLink RX5 141 yX5_copy, Cond.static yX5_copy, Cond.code yX5_copy cX5_copy 5 none]
def wsX5_weigh : List Cond := .code yX5_weigh cX5_weigh 4 (some .int) :: ((wsX5_weigh_r1 ++ wsX5_weigh_r2) ++ wsX50)
def wsX5_join_r1 : List Cond := [Cond.fieldLink RX5 1 "PartSumsModel" "thrown" "I", Cond.fieldLink RX5 56 "PartSumsModel" "now" "[I", Cond.methodLink RX5 163 yX5_isThing, Cond.instanceMethod yX5_isThing, Cond.selects RX5 yX5_isThing yX5_isThing, Cond.initialized RX5, Cond.code yX5_isThing cX5_isThing 2 (some .boolean), Cond.methodLink RX5 148 yX5_things, Cond.instanceMethod yX5_things, Cond.selects RX5 yX5_things yX5_things, Cond.code yX5_things cX5_things 1 (some .int), Cond.methodLink RX5 99 yX5_isIn, Cond.static yX5_isIn, Cond.code yX5_isIn cX5_isIn 3 (some .boolean), Cond.methodLink RX5 103 yX5_has, Cond.static yX5_has, Cond.code yX5_has cX5_has 2 (some .boolean), Cond.methodLink RX5 168 yX5_snap, Cond.instanceMethod yX5_snap, Cond.selects RX5 yX5_snap yX5_snap, Cond.code yX5_snap cX5_snap 2 none, Cond.fieldLink RX5 145 "PartSumsModel" "snapMany" "I", Cond.fieldLink RX5 65 "PartSumsModel" "snaps" "[I", Cond.methodLink RX5 141 yX5_copy]
def wsX5_join_r2 : List Cond := [Cond.static yX5_copy, Cond.code yX5_copy cX5_copy 5 none, Cond.methodLink RX5 117 yX5_joins, Cond.static yX5_joins, Cond.code yX5_joins cX5_joins 3 none, Cond.methodLink RX5 151 yX5_all, Cond.instanceMethod yX5_all, Cond.selects RX5 yX5_all yX5_all, Cond.code yX5_all cX5_all 1 (some .int), Cond.methodLink RX5 157 yX5_pairsIn, Cond.instanceMethod yX5_pairsIn, Cond.selects RX5 yX5_pairsIn yX5_pairsIn, Cond.code yX5_pairsIn cX5_pairsIn 4 (some .int), Cond.methodLink RX5 111 yX5_bits, Cond.static yX5_bits, Cond.code yX5_bits cX5_bits 3 (some .int)]
def wsX5_join : List Cond := .code yX5_join cX5_join 4 (some .int) :: ((wsX5_join_r1 ++ wsX5_join_r2) ++ wsX50)
def wsX5_swapped : List Cond := .code yX5_swapped cX5_swapped 3 (some .int) :: ([.methodLink RX5 103 yX5_has, .static yX5_has, .initialized RX5, .code yX5_has cX5_has 2 (some .boolean)])
def wsX5_swaps : List Cond := .code yX5_swaps cX5_swaps 5 none :: ([.fieldLink RX5 75 "PartSumsModel" "helper" "[I", .fieldLink RX5 56 "PartSumsModel" "now" "[I", .methodLink RX5 151 yX5_all, .instanceMethod yX5_all, .selects RX5 yX5_all yX5_all, .initialized RX5, .code yX5_all cX5_all 1 (some .int), .methodLink RX5 148 yX5_things, .instanceMethod yX5_things, .selects RX5 yX5_things yX5_things, .code yX5_things cX5_things 1 (some .int), .methodLink RX5 244 yX5_swapped, .static yX5_swapped, .code yX5_swapped cX5_swapped 3 (some .int), .methodLink RX5 103 yX5_has, .static yX5_has, .code yX5_has cX5_has 2 (some .boolean)] ++ wsX50)
def wsX5_name_r1 : List Cond := [Cond.fieldLink RX5 1 "PartSumsModel" "thrown" "I", Cond.fieldLink RX5 75 "PartSumsModel" "helper" "[I", Cond.fieldLink RX5 56 "PartSumsModel" "now" "[I", Cond.methodLink RX5 163 yX5_isThing, Cond.instanceMethod yX5_isThing, Cond.selects RX5 yX5_isThing yX5_isThing, Cond.initialized RX5, Cond.code yX5_isThing cX5_isThing 2 (some .boolean), Cond.methodLink RX5 148 yX5_things, Cond.instanceMethod yX5_things, Cond.selects RX5 yX5_things yX5_things, Cond.code yX5_things cX5_things 1 (some .int), Cond.methodLink RX5 99 yX5_isIn, Cond.static yX5_isIn, Cond.code yX5_isIn cX5_isIn 3 (some .boolean), Cond.methodLink RX5 168 yX5_snap, Cond.instanceMethod yX5_snap, Cond.selects RX5 yX5_snap yX5_snap, Cond.code yX5_snap cX5_snap 2 none, Cond.fieldLink RX5 145 "PartSumsModel" "snapMany" "I", Cond.fieldLink RX5 65 "PartSumsModel" "snaps" "[I", Cond.methodLink RX5 141 yX5_copy, Cond.static yX5_copy, Cond.code yX5_copy cX5_copy 5 none]
def wsX5_name_r2 : List Cond := [Cond.methodLink RX5 151 yX5_all, Cond.instanceMethod yX5_all, Cond.selects RX5 yX5_all yX5_all, Cond.code yX5_all cX5_all 1 (some .int), Cond.methodLink RX5 220 yX5_isTold, Cond.instanceMethod yX5_isTold, Cond.selects RX5 yX5_isTold yX5_isTold, Cond.code yX5_isTold cX5_isTold 2 (some .boolean), Cond.methodLink RX5 103 yX5_has, Cond.static yX5_has, Cond.code yX5_has cX5_has 2 (some .boolean), Cond.methodLink RX5 247 yX5_swaps, Cond.instanceMethod yX5_swaps, Cond.selects RX5 yX5_swaps yX5_swaps, Cond.code yX5_swaps cX5_swaps 5 none, Cond.methodLink RX5 244 yX5_swapped, Cond.static yX5_swapped, Cond.code yX5_swapped cX5_swapped 3 (some .int)]
def wsX5_name : List Cond := .code yX5_name cX5_name 5 (some .int) :: ((wsX5_name_r1 ++ wsX5_name_r2) ++ wsX50)
def wsX5_draw : List Cond := .code yX5_draw cX5_draw 2 (some .int) :: ([.fieldLink RX5 251 "PartSumsModel" "seed" "I", .constant RX5 254 (1103515245)] ++ wsX50)
def wsX5_does : List Cond := .code yX5_does cX5_does 4 none :: ([.fieldLink RX5 56 "PartSumsModel" "now" "[I", .methodLink RX5 255 yX5_draw, .instanceMethod yX5_draw, .selects RX5 yX5_draw yX5_draw, .initialized RX5, .code yX5_draw cX5_draw 2 (some .int), .fieldLink RX5 251 "PartSumsModel" "seed" "I", .constant RX5 254 (1103515245), .methodLink RX5 148 yX5_things, .instanceMethod yX5_things, .selects RX5 yX5_things yX5_things, .code yX5_things cX5_things 1 (some .int), .methodLink RX5 117 yX5_joins, .static yX5_joins, .code yX5_joins cX5_joins 3 none, .methodLink RX5 151 yX5_all, .instanceMethod yX5_all, .selects RX5 yX5_all yX5_all, .code yX5_all cX5_all 1 (some .int)] ++ wsX50)
def wsX5_drawn_r1 : List Cond := [Cond.fieldLink RX5 1 "PartSumsModel" "thrown" "I", Cond.fieldLink RX5 251 "PartSumsModel" "seed" "I", Cond.methodLink RX5 99 yX5_isIn, Cond.static yX5_isIn, Cond.initialized RX5, Cond.code yX5_isIn cX5_isIn 3 (some .boolean), Cond.methodLink RX5 148 yX5_things, Cond.instanceMethod yX5_things, Cond.selects RX5 yX5_things yX5_things, Cond.code yX5_things cX5_things 1 (some .int), Cond.fieldLink RX5 56 "PartSumsModel" "now" "[I", Cond.methodLink RX5 168 yX5_snap, Cond.instanceMethod yX5_snap, Cond.selects RX5 yX5_snap yX5_snap, Cond.code yX5_snap cX5_snap 2 none, Cond.fieldLink RX5 145 "PartSumsModel" "snapMany" "I", Cond.fieldLink RX5 65 "PartSumsModel" "snaps" "[I", Cond.methodLink RX5 141 yX5_copy, Cond.static yX5_copy, Cond.code yX5_copy cX5_copy 5 none, Cond.methodLink RX5 258 yX5_does, Cond.instanceMethod yX5_does, Cond.selects RX5 yX5_does yX5_does, Cond.code yX5_does cX5_does 4 none]
def wsX5_drawn_r2 : List Cond := [Cond.methodLink RX5 255 yX5_draw, Cond.instanceMethod yX5_draw, Cond.selects RX5 yX5_draw yX5_draw, Cond.code yX5_draw cX5_draw 2 (some .int), Cond.constant RX5 254 (1103515245), Cond.methodLink RX5 117 yX5_joins, Cond.static yX5_joins, Cond.code yX5_joins cX5_joins 3 none, Cond.methodLink RX5 151 yX5_all, Cond.instanceMethod yX5_all, Cond.selects RX5 yX5_all yX5_all, Cond.code yX5_all cX5_all 1 (some .int), Cond.methodLink RX5 154 yX5_told, Cond.instanceMethod yX5_told, Cond.selects RX5 yX5_told yX5_told, Cond.code yX5_told cX5_told 3 (some .int)]
def wsX5_drawn : List Cond := .code yX5_drawn cX5_drawn 4 (some .int) :: ((wsX5_drawn_r1 ++ wsX5_drawn_r2) ++ wsX50)
def wsX5_undo : List Cond := .code yX5_undo cX5_undo 1 (some .int) :: ([.fieldLink RX5 1 "PartSumsModel" "thrown" "I", .fieldLink RX5 145 "PartSumsModel" "snapMany" "I", .fieldLink RX5 65 "PartSumsModel" "snaps" "[I", .fieldLink RX5 56 "PartSumsModel" "now" "[I", .methodLink RX5 141 yX5_copy, .static yX5_copy, .initialized RX5, .code yX5_copy cX5_copy 5 none] ++ wsX50)
def wsX5_image : List Cond := .code yX5_image cX5_image 2 (some .boolean) :: ([.fieldLink RX5 1 "PartSumsModel" "thrown" "I", .fieldLink RX5 56 "PartSumsModel" "now" "[I", .fieldLink RX5 62 "PartSumsModel" "kept" "[I", .fieldLink RX5 68 "PartSumsModel" "isKept" "[Z", .methodLink RX5 99 yX5_isIn, .static yX5_isIn, .initialized RX5, .code yX5_isIn cX5_isIn 3 (some .boolean), .methodLink RX5 141 yX5_copy, .static yX5_copy, .code yX5_copy cX5_copy 5 none] ++ wsX50)
def wsX5_restore : List Cond := .code yX5_restore cX5_restore 2 (some .boolean) :: ([.fieldLink RX5 1 "PartSumsModel" "thrown" "I", .fieldLink RX5 68 "PartSumsModel" "isKept" "[Z", .fieldLink RX5 62 "PartSumsModel" "kept" "[I", .fieldLink RX5 56 "PartSumsModel" "now" "[I", .fieldLink RX5 145 "PartSumsModel" "snapMany" "I", .methodLink RX5 99 yX5_isIn, .static yX5_isIn, .initialized RX5, .code yX5_isIn cX5_isIn 3 (some .boolean), .methodLink RX5 141 yX5_copy, .static yX5_copy, .code yX5_copy cX5_copy 5 none] ++ wsX50)
def wsJ9_min_7cf53 : List Cond := .code yJ9_min_7cf53 cJ9_min_7cf53 2 (some .int) :: ([])
def wsL_part_r1 : List Cond := [Cond.classLink RL 13 "java/util/NoSuchElementException", Cond.methodLink RL 7 yX4_part, Cond.instanceMethod yX4_part, Cond.selects RX4 yX4_part yX4_part, Cond.initialized RX4, Cond.code yX4_part cX4_part 4 (some .int), Cond.classLink RX4 193 "java/util/NoSuchElementException", Cond.initialized "java/util/NoSuchElementException", Cond.methodLink RX4 190 yX4_partOrNone, Cond.instanceMethod yX4_partOrNone, Cond.selects RX4 yX4_partOrNone yX4_partOrNone, Cond.code yX4_partOrNone cX4_partOrNone 5 (some .int), Cond.fieldLink RX4 10 "PartSums" "ground" "LPartSums$Ground;", Cond.fieldLink RX4 43 "PartSums" "left" "[I", Cond.constant RX4 189 (1000000), Cond.methodLink RX4 102 yX1_hasSet, Cond.instanceMethod yX1_hasSet, Cond.selects RX1 yX1_hasSet yX1_hasSet, Cond.initialized RX1, Cond.code yX1_hasSet cX1_hasSet 2 (some .boolean), Cond.methodLink RX1 30 yX1_countSets, Cond.instanceMethod yX1_countSets, Cond.selects RX1 yX1_countSets yX1_countSets, Cond.code yX1_countSets cX1_countSets 1 (some .int)]
def wsL_part_r2 : List Cond := [Cond.fieldLink RX1 16 "PartSums$Ground" "things" "I", Cond.methodLink RX4 186 yX4_priceParts, Cond.instanceMethod yX4_priceParts, Cond.selects RX4 yX4_priceParts yX4_priceParts, Cond.code yX4_priceParts cX4_priceParts 3 none, Cond.methodLink RX4 278 yX4_leastPrice, Cond.instanceMethod yX4_leastPrice, Cond.selects RX4 yX4_leastPrice yX4_leastPrice, Cond.code yX4_leastPrice cX4_leastPrice 5 (some .int), Cond.methodLink RX4 284 Lib.Math.min.name, Cond.static Lib.Math.min.name, Cond.initialized "java/lang/Math", Cond.code Lib.Math.min.name Lib.Math.min.code 2 (some .int), Cond.methodLink RX4 281 yX4_priceWith, Cond.instanceMethod yX4_priceWith, Cond.selects RX4 yX4_priceWith yX4_priceWith, Cond.code yX4_priceWith cX4_priceWith 5 (some .int), Cond.fieldLink RX4 106 "PartSums$Ground" "lines" "[[I", Cond.methodLink RX4 289 yX4_firstPart, Cond.instanceMethod yX4_firstPart, Cond.selects RX4 yX4_firstPart yX4_firstPart, Cond.code yX4_firstPart cX4_firstPart 5 (some .int)]
def wsL_part : List Cond := .codeWith yL_part cL_part 5 (some .int) [(0, 10, 13, 13)] :: ((wsL_part_r1 ++ wsL_part_r2) ++ wsX40 ++ wsX10 ++ (vx_atS RX4 197 "java/util/NoSuchElementException" ["java/lang/RuntimeException", "java/lang/Exception"]).filter goodWord)
def wsL_law0_r1 : List Cond := [Cond.classLink RL 8 RX4, Cond.instantiable RX4 9, Cond.initialized RX4, Cond.classLink RL 16 RX5, Cond.instantiable RX5 24, Cond.initialized RX5, Cond.arrayClass .long, Cond.methodLink RL 15 yX4_init, Cond.instanceMethod yX4_init, Cond.code yX4_init cX4_init 1 none, Cond.methodLink RX4 1 objectInit, Cond.instanceMethod objectInit, Cond.code objectInit ⟨#[0xb1]⟩ 1 none, Cond.classLink RX4 7 RX1, Cond.instantiable RX1 4, Cond.initialized RX1, Cond.fieldLink RX4 10 "PartSums" "ground" "LPartSums$Ground;", Cond.fieldLink RX4 16 "PartSums" "firstImage" "LPartSums$Ground;", Cond.fieldLink RX4 19 "PartSums" "secondImage" "LPartSums$Ground;", Cond.classLink RX4 22 RX0, Cond.instantiable RX0 7, Cond.initialized RX0, Cond.fieldLink RX4 25 "PartSums" "acts" "LPartSums$Acts;", Cond.classLink RX4 29 RX2]
def wsL_law0_r2 : List Cond := [Cond.instantiable RX2 10, Cond.initialized RX2, Cond.fieldLink RX4 32 "PartSums" "reader" "LPartSums$Reader;", Cond.classLink RX4 36 RX3, Cond.instantiable RX3 2, Cond.initialized RX3, Cond.fieldLink RX4 39 "PartSums" "series" "LPartSums$Series;", Cond.arrayClass .int, Cond.fieldLink RX4 43 "PartSums" "left" "[I", Cond.fieldLink RX4 47 "PartSums" "right" "[I", Cond.fieldLink RX4 50 "PartSums" "classes" "[I", Cond.instanceMethod yX1_init, Cond.code yX1_init cX1_init 1 none, Cond.methodLink RX1 3 objectInit, Cond.classLink RX1 9 "[[I", Cond.fieldLink RX1 11 "PartSums$Ground" "lines" "[[I", Cond.instanceMethod yX0_init, Cond.code yX0_init cX0_init 1 none, Cond.methodLink RX0 3 objectInit, Cond.fieldLink RX0 11 "PartSums$Acts" "lineOf" "[I", Cond.classLink RX0 15 "[[I", Cond.fieldLink RX0 17 "PartSums$Acts" "was" "[[I", Cond.fieldLink RX0 20 "PartSums$Acts" "pairsWere" "[J", Cond.fieldLink RX0 24 "PartSums$Acts" "firstName" "[I"]
def wsL_law0_r3 : List Cond := [Cond.fieldLink RX0 27 "PartSums$Acts" "secondName" "[I", Cond.instanceMethod yX2_init, Cond.code yX2_init cX2_init 1 none, Cond.methodLink RX2 3 objectInit, Cond.arrayClass .byte, Cond.fieldLink RX2 11 "PartSums$Reader" "tape" "[B", Cond.fieldLink RX2 15 "PartSums$Reader" "weights" "[I", Cond.instanceMethod yX3_init, Cond.code yX3_init cX3_init 1 none, Cond.methodLink RX3 3 objectInit, Cond.fieldLink RX3 9 "PartSums$Series" "grown" "[J", Cond.fieldLink RX3 15 "PartSums$Series" "slopes" "[J", Cond.methodLink RL 18 yX5_init, Cond.instanceMethod yX5_init, Cond.code yX5_init cX5_init 1 none, Cond.methodLink RX5 50 objectInit, Cond.fieldLink RX5 7 "PartSumsModel" "tape" "[I", Cond.fieldLink RX5 56 "PartSumsModel" "now" "[I", Cond.fieldLink RX5 59 "PartSumsModel" "read" "[I", Cond.fieldLink RX5 62 "PartSumsModel" "kept" "[I", Cond.fieldLink RX5 65 "PartSumsModel" "snaps" "[I", Cond.arrayClass .boolean, Cond.fieldLink RX5 68 "PartSumsModel" "isKept" "[Z", Cond.fieldLink RX5 72 "PartSumsModel" "made" "[I"]
def wsL_law0_r4 : List Cond := [Cond.fieldLink RX5 75 "PartSumsModel" "helper" "[I", Cond.fieldLink RX5 78 "PartSumsModel" "ways" "[I", Cond.fieldLink RX5 81 "PartSumsModel" "price" "[I", Cond.fieldLink RX5 84 "PartSumsModel" "plain" "[I", Cond.fieldLink RX5 87 "PartSumsModel" "colourOf" "[I", Cond.fieldLink RX5 90 "PartSumsModel" "hung" "[I", Cond.methodLink RL 19 yX4_feed, Cond.instanceMethod yX4_feed, Cond.selects RX4 yX4_feed yX4_feed, Cond.code yX4_feed cX4_feed 6 (some .int), Cond.fieldLink RX4 61 "PartSums$Reader" "length" "I", Cond.methodLink RX4 53 yX2_hasRoom, Cond.instanceMethod yX2_hasRoom, Cond.selects RX2 yX2_hasRoom yX2_hasRoom, Cond.code yX2_hasRoom cX2_hasRoom 1 (some .boolean), Cond.fieldLink RX2 19 "PartSums$Reader" "length" "I", Cond.methodLink RX4 57 yX2_take, Cond.instanceMethod yX2_take, Cond.selects RX2 yX2_take yX2_take, Cond.code yX2_take cX2_take 3 none, Cond.methodLink RL 23 yX5_feed, Cond.instanceMethod yX5_feed, Cond.selects RX5 yX5_feed yX5_feed, Cond.code yX5_feed cX5_feed 6 (some .int)]
def wsL_law0_r5 : List Cond := [Cond.fieldLink RX5 1 "PartSumsModel" "thrown" "I", Cond.fieldLink RX5 11 "PartSumsModel" "taped" "I", Cond.methodLink RX5 14 yX5_lays, Cond.instanceMethod yX5_lays, Cond.selects RX5 yX5_lays yX5_lays, Cond.code yX5_lays cX5_lays 3 none, Cond.methodLink RL 24 yX4_end, Cond.instanceMethod yX4_end, Cond.selects RX4 yX4_end yX4_end, Cond.code yX4_end cX4_end 2 (some .boolean), Cond.methodLink RL 28 yX5_end, Cond.instanceMethod yX5_end, Cond.selects RX5 yX5_end yX5_end, Cond.code yX5_end cX5_end 2 (some .boolean), Cond.methodLink RL 29 yX4_text, Cond.instanceMethod yX4_text, Cond.selects RX4 yX4_text yX4_text, Cond.code yX4_text cX4_text 2 (some .int), Cond.fieldLink RX4 69 "PartSums$Reader" "kindOfFault" "I", Cond.fieldLink RX4 72 "PartSums$Reader" "place" "I", Cond.fieldLink RX4 75 "PartSums$Reader" "things" "I", Cond.fieldLink RX4 78 "PartSums$Reader" "pairs" "J", Cond.fieldLink RX4 82 "PartSums$Reader" "weights" "[I", Cond.methodLink RX4 65 yX2_readAll]
def wsL_law0_r6 : List Cond := [Cond.instanceMethod yX2_readAll, Cond.selects RX2 yX2_readAll yX2_readAll, Cond.code yX2_readAll cX2_readAll 2 (some .int), Cond.fieldLink RX2 23 "PartSums$Reader" "kindOfFault" "I", Cond.fieldLink RX2 26 "PartSums$Reader" "things" "I", Cond.fieldLink RX2 29 "PartSums$Reader" "pairs" "J", Cond.fieldLink RX2 33 "PartSums$Reader" "stop" "I", Cond.methodLink RX2 36 yX2_readLine, Cond.instanceMethod yX2_readLine, Cond.selects RX2 yX2_readLine yX2_readLine, Cond.code yX2_readLine cX2_readLine 2 (some .boolean), Cond.fieldLink RX2 43 "PartSums$Reader" "kind" "I", Cond.methodLink RX2 40 yX2_nextToken, Cond.instanceMethod yX2_nextToken, Cond.selects RX2 yX2_nextToken yX2_nextToken, Cond.code yX2_nextToken cX2_nextToken 2 none, Cond.methodLink RX2 91 Lib.Math.min.name, Cond.static Lib.Math.min.name, Cond.initialized "java/lang/Math", Cond.code Lib.Math.min.name Lib.Math.min.code 2 (some .int), Cond.fieldLink RX2 85 "PartSums$Reader" "start" "I", Cond.methodLink RX2 97 yX2_readRun, Cond.instanceMethod yX2_readRun, Cond.selects RX2 yX2_readRun yX2_readRun]
def wsL_law0_r7 : List Cond := [Cond.code yX2_readRun cX2_readRun 2 none, Cond.methodLink RX2 100 yX2_isLetter, Cond.static yX2_isLetter, Cond.code yX2_isLetter cX2_isLetter 1 (some .boolean), Cond.methodLink RX2 104 yX2_isDigit, Cond.static yX2_isDigit, Cond.code yX2_isDigit cX2_isDigit 1 (some .boolean), Cond.methodLink RX2 47 yX2_isWord, Cond.instanceMethod yX2_isWord, Cond.selects RX2 yX2_isWord yX2_isWord, Cond.code yX2_isWord cX2_isWord 3 (some .boolean), Cond.methodLink RX2 107 yJ0_length_8abf5, Cond.instanceMethod yJ0_length_8abf5, Cond.selects RJ0 yJ0_length_8abf5 yJ0_length_8abf5, Cond.initialized RJ0, Cond.code yJ0_length_8abf5 cJ0_length_8abf5 1 (some .int), Cond.fieldLink RJ0 9 "java/lang/String" "value" "[B", Cond.methodLink RJ0 335 yJ0_coder_7d493, Cond.instanceMethod yJ0_coder_7d493, Cond.selects RJ0 yJ0_coder_7d493 yJ0_coder_7d493, Cond.code yJ0_coder_7d493 cJ0_coder_7d493 1 (some .byte), Cond.fieldLink RJ0 38 "java/lang/String" "COMPACT_STRINGS" "Z", Cond.fieldLink RJ0 15 "java/lang/String" "coder" "B", Cond.methodLink RX2 111 yJ0_charAt_5068e]
def wsL_law0_r8 : List Cond := [Cond.instanceMethod yJ0_charAt_5068e, Cond.selects RJ0 yJ0_charAt_5068e yJ0_charAt_5068e, Cond.code yJ0_charAt_5068e cJ0_charAt_5068e 2 (some .char), Cond.methodLink RJ0 492 yJ0_isLatin1_aae02, Cond.instanceMethod yJ0_isLatin1_aae02, Cond.selects RJ0 yJ0_isLatin1_aae02 yJ0_isLatin1_aae02, Cond.code yJ0_isLatin1_aae02 cJ0_isLatin1_aae02 1 (some .boolean), Cond.methodLink RJ0 495 yJ1_charAt_3b067, Cond.static yJ1_charAt_3b067, Cond.initialized RJ1, Cond.code yJ1_charAt_3b067 cJ1_charAt_3b067 2 (some .char), Cond.methodLink RJ1 9 yJ0_checkIndex_df160, Cond.static yJ0_checkIndex_df160, Cond.code yJ0_checkIndex_df160 cJ0_checkIndex_df160 2 none, Cond.fieldLink RJ0 1053 "jdk/internal/util/Preconditions" "SIOOBE_FORMATTER" "Ljava/util/function/BiFunction;", Cond.methodLink RJ0 1059 yJ3_checkIndex_8e157, Cond.static yJ3_checkIndex_8e157, Cond.initialized RJ3, Cond.code yJ3_checkIndex_8e157 cJ3_checkIndex_8e157 3 (some .int), Cond.methodLink RJ0 498 yJ2_charAt_3b067, Cond.static yJ2_charAt_3b067, Cond.initialized RJ2, Cond.code yJ2_charAt_3b067 cJ2_charAt_3b067 2 (some .char), Cond.methodLink RJ2 67 yJ2_checkIndex_2214a]
def wsL_law0_r9 : List Cond := [Cond.static yJ2_checkIndex_2214a, Cond.code yJ2_checkIndex_2214a cJ2_checkIndex_2214a 2 none, Cond.methodLink RJ2 48 yJ2_length_9d52b, Cond.static yJ2_length_9d52b, Cond.code yJ2_length_9d52b cJ2_length_9d52b 1 (some .int), Cond.methodLink RJ2 414 yJ0_checkIndex_df160, Cond.methodLink RJ2 71 yJ2_getChar_3b067, Cond.static yJ2_getChar_3b067, Cond.code yJ2_getChar_3b067 cJ2_getChar_3b067 2 (some .char), Cond.fieldLink RJ2 44 "java/lang/StringUTF16" "$assertionsDisabled" "Z", Cond.fieldLink RJ2 59 "java/lang/StringUTF16" "HI_BYTE_SHIFT" "I", Cond.fieldLink RJ2 63 "java/lang/StringUTF16" "LO_BYTE_SHIFT" "I", Cond.methodLink RX2 51 yX2_readThings, Cond.instanceMethod yX2_readThings, Cond.selects RX2 yX2_readThings yX2_readThings, Cond.code yX2_readThings cX2_readThings 2 (some .boolean), Cond.methodLink RX2 55 yX2_blame, Cond.instanceMethod yX2_blame, Cond.selects RX2 yX2_blame yX2_blame, Cond.code yX2_blame cX2_blame 2 (some .boolean), Cond.fieldLink RX2 88 "PartSums$Reader" "place" "I", Cond.methodLink RX2 69 yX2_numberRead, Cond.instanceMethod yX2_numberRead, Cond.selects RX2 yX2_numberRead yX2_numberRead]
def wsL_law0_r10 : List Cond := [Cond.code yX2_numberRead cX2_numberRead 3 (some .int), Cond.methodLink RX2 61 yX2_readSet, Cond.instanceMethod yX2_readSet, Cond.selects RX2 yX2_readSet yX2_readSet, Cond.code yX2_readSet cX2_readSet 2 (some .boolean), Cond.methodLink RX2 73 yX2_lettersRead, Cond.instanceMethod yX2_lettersRead, Cond.selects RX2 yX2_lettersRead yX2_lettersRead, Cond.code yX2_lettersRead cX2_lettersRead 4 (some .int), Cond.methodLink RX2 66 yX2_readPair, Cond.instanceMethod yX2_readPair, Cond.selects RX2 yX2_readPair yX2_readPair, Cond.code yX2_readPair cX2_readPair 6 (some .boolean), Cond.methodLink RX2 76 yJ6_bitCount_0f7a4, Cond.static yJ6_bitCount_0f7a4, Cond.initialized RJ6, Cond.code yJ6_bitCount_0f7a4 cJ6_bitCount_0f7a4 1 (some .int), Cond.constant RJ6 265 (1431655765), Cond.constant RJ6 266 (858993459), Cond.constant RJ6 267 (252645135), Cond.static yX4_leastThing, Cond.code yX4_leastThing cX4_leastThing 2 (some .int), Cond.methodLink RX4 85 yX1_begin, Cond.instanceMethod yX1_begin]
def wsL_law0_r11 : List Cond := [Cond.selects RX1 yX1_begin yX1_begin, Cond.code yX1_begin cX1_begin 7 none, Cond.fieldLink RX1 16 "PartSums$Ground" "things" "I", Cond.fieldLink RX1 20 "PartSums$Ground" "pairs" "J", Cond.methodLink RX1 24 arraycopyName, Cond.native arraycopyName, Cond.static arraycopyName, Cond.initialized "java/lang/System", Cond.methodLink RX4 89 yX0_forget, Cond.instanceMethod yX0_forget, Cond.selects RX0 yX0_forget yX0_forget, Cond.code yX0_forget cX0_forget 1 none, Cond.fieldLink RX0 30 "PartSums$Acts" "kept" "I", Cond.methodLink RL 33 yX5_text, Cond.instanceMethod yX5_text, Cond.selects RX5 yX5_text yX5_text, Cond.code yX5_text cX5_text 3 (some .int), Cond.fieldLink RX5 18 "PartSumsModel" "size" "I", Cond.fieldLink RX5 44 "PartSumsModel" "fault" "I", Cond.fieldLink RX5 21 "PartSumsModel" "to" "I", Cond.fieldLink RX5 27 "PartSumsModel" "kind" "I", Cond.fieldLink RX5 47 "PartSumsModel" "place" "I", Cond.fieldLink RX5 145 "PartSumsModel" "snapMany" "I", Cond.methodLink RX5 93 yX5_next]
def wsL_law0_r12 : List Cond := [Cond.instanceMethod yX5_next, Cond.selects RX5 yX5_next yX5_next, Cond.code yX5_next cX5_next 5 none, Cond.fieldLink RX5 24 "PartSumsModel" "from" "I", Cond.fieldLink RX5 37 "PartSumsModel" "number" "I", Cond.methodLink RX5 30 yX5_isLetter, Cond.static yX5_isLetter, Cond.code yX5_isLetter cX5_isLetter 1 (some .boolean), Cond.methodLink RX5 34 yX5_isDigit, Cond.static yX5_isDigit, Cond.code yX5_isDigit cX5_isDigit 1 (some .boolean), Cond.methodLink RX5 40 yX5_tapeAt, Cond.instanceMethod yX5_tapeAt, Cond.selects RX5 yX5_tapeAt yX5_tapeAt, Cond.code yX5_tapeAt cX5_tapeAt 2 (some .int), Cond.methodLink RX5 135 yX5_readLine, Cond.instanceMethod yX5_readLine, Cond.selects RX5 yX5_readLine yX5_readLine, Cond.code yX5_readLine cX5_readLine 1 (some .boolean), Cond.methodLink RX5 121 yX5_isWord, Cond.instanceMethod yX5_isWord, Cond.selects RX5 yX5_isWord yX5_isWord, Cond.code yX5_isWord cX5_isWord 9 (some .boolean), Cond.methodLink RX5 125 yX5_readThings]
def wsL_law0_r13 : List Cond := [Cond.instanceMethod yX5_readThings, Cond.selects RX5 yX5_readThings yX5_readThings, Cond.code yX5_readThings cX5_readThings 1 (some .boolean), Cond.methodLink RX5 96 yX5_bad, Cond.instanceMethod yX5_bad, Cond.selects RX5 yX5_bad yX5_bad, Cond.code yX5_bad cX5_bad 2 (some .boolean), Cond.methodLink RX5 99 yX5_isIn, Cond.static yX5_isIn, Cond.code yX5_isIn cX5_isIn 3 (some .boolean), Cond.methodLink RX5 129 yX5_readSet, Cond.instanceMethod yX5_readSet, Cond.selects RX5 yX5_readSet yX5_readSet, Cond.code yX5_readSet cX5_readSet 2 (some .boolean), Cond.methodLink RX5 107 yX5_letters, Cond.instanceMethod yX5_letters, Cond.selects RX5 yX5_letters yX5_letters, Cond.code yX5_letters cX5_letters 4 (some .int), Cond.methodLink RX5 103 yX5_has, Cond.static yX5_has, Cond.code yX5_has cX5_has 2 (some .boolean), Cond.methodLink RX5 132 yX5_readPair, Cond.instanceMethod yX5_readPair, Cond.selects RX5 yX5_readPair yX5_readPair]
def wsL_law0_r14 : List Cond := [Cond.code yX5_readPair cX5_readPair 4 (some .boolean), Cond.methodLink RX5 111 yX5_bits, Cond.static yX5_bits, Cond.code yX5_bits cX5_bits 3 (some .int), Cond.methodLink RX5 114 yX5_low, Cond.static yX5_low, Cond.code yX5_low cX5_low 2 (some .int), Cond.methodLink RX5 117 yX5_joins, Cond.static yX5_joins, Cond.code yX5_joins cX5_joins 3 none, Cond.methodLink RX5 138 yX5_readEnd, Cond.instanceMethod yX5_readEnd, Cond.selects RX5 yX5_readEnd yX5_readEnd, Cond.code yX5_readEnd cX5_readEnd 1 (some .boolean), Cond.methodLink RX5 141 yX5_copy, Cond.static yX5_copy, Cond.code yX5_copy cX5_copy 5 none, Cond.methodLink RL 34 yX4_fault, Cond.instanceMethod yX4_fault, Cond.selects RX4 yX4_fault yX4_fault, Cond.code yX4_fault cX4_fault 1 (some .int), Cond.methodLink RL 37 yX5_fault, Cond.instanceMethod yX5_fault, Cond.selects RX5 yX5_fault yX5_fault]
def wsL_law0_r15 : List Cond := [Cond.code yX5_fault cX5_fault 1 (some .int), Cond.methodLink RL 38 yX4_now, Cond.instanceMethod yX4_now, Cond.selects RX4 yX4_now yX4_now, Cond.code yX4_now cX4_now 2 (some .int), Cond.fieldLink RX4 92 "PartSums$Ground" "things" "I", Cond.fieldLink RX4 99 "PartSums$Acts" "kept" "I", Cond.methodLink RX4 93 yX1_countTold, Cond.instanceMethod yX1_countTold, Cond.selects RX1 yX1_countTold yX1_countTold, Cond.code yX1_countTold cX1_countTold 3 (some .int), Cond.methodLink RX4 96 yX1_countPairs, Cond.instanceMethod yX1_countPairs, Cond.selects RX1 yX1_countPairs yX1_countPairs, Cond.code yX1_countPairs cX1_countPairs 1 (some .int), Cond.methodLink RX1 38 yJ13_bitCount_95d88, Cond.static yJ13_bitCount_95d88, Cond.initialized RJ13, Cond.code yJ13_bitCount_95d88 cJ13_bitCount_95d88 2 (some .int), Cond.constantLong RJ13 314 (6148914691236517205), Cond.constantLong RJ13 316 (3689348814741910323), Cond.constantLong RJ13 318 (1085102592571150095), Cond.methodLink RL 42 yX5_now, Cond.instanceMethod yX5_now]
def wsL_law0_r16 : List Cond := [Cond.selects RX5 yX5_now yX5_now, Cond.code yX5_now cX5_now 2 (some .int), Cond.methodLink RX5 148 yX5_things, Cond.instanceMethod yX5_things, Cond.selects RX5 yX5_things yX5_things, Cond.code yX5_things cX5_things 1 (some .int), Cond.methodLink RX5 154 yX5_told, Cond.instanceMethod yX5_told, Cond.selects RX5 yX5_told yX5_told, Cond.code yX5_told cX5_told 3 (some .int), Cond.methodLink RX5 151 yX5_all, Cond.instanceMethod yX5_all, Cond.selects RX5 yX5_all yX5_all, Cond.code yX5_all cX5_all 1 (some .int), Cond.methodLink RX5 157 yX5_pairsIn, Cond.instanceMethod yX5_pairsIn, Cond.selects RX5 yX5_pairsIn yX5_pairsIn, Cond.code yX5_pairsIn cX5_pairsIn 4 (some .int), Cond.methodLink RL 43 yX4_weight, Cond.instanceMethod yX4_weight, Cond.selects RX4 yX4_weight yX4_weight, Cond.code yX4_weight cX4_weight 2 (some .int), Cond.fieldLink RX4 106 "PartSums$Ground" "lines" "[[I", Cond.methodLink RX4 102 yX1_hasSet]
def wsL_law0_r17 : List Cond := [Cond.instanceMethod yX1_hasSet, Cond.selects RX1 yX1_hasSet yX1_hasSet, Cond.code yX1_hasSet cX1_hasSet 2 (some .boolean), Cond.methodLink RX1 30 yX1_countSets, Cond.instanceMethod yX1_countSets, Cond.selects RX1 yX1_countSets yX1_countSets, Cond.code yX1_countSets cX1_countSets 1 (some .int), Cond.methodLink RL 46 yX5_weight, Cond.instanceMethod yX5_weight, Cond.selects RX5 yX5_weight yX5_weight, Cond.code yX5_weight cX5_weight 2 (some .int), Cond.methodLink RX5 160 yX5_isSet, Cond.instanceMethod yX5_isSet, Cond.selects RX5 yX5_isSet yX5_isSet, Cond.code yX5_isSet cX5_isSet 2 (some .boolean), Cond.methodLink RL 47 yX4_joined, Cond.instanceMethod yX4_joined, Cond.selects RX4 yX4_joined yX4_joined, Cond.code yX4_joined cX4_joined 2 (some .int), Cond.methodLink RX4 110 yX1_hasThing, Cond.instanceMethod yX1_hasThing, Cond.selects RX1 yX1_hasThing yX1_hasThing, Cond.code yX1_hasThing cX1_hasThing 2 (some .boolean), Cond.methodLink RX4 113 yX1_mates]
def wsL_law0_r18 : List Cond := [Cond.instanceMethod yX1_mates, Cond.selects RX1 yX1_mates yX1_mates, Cond.code yX1_mates cX1_mates 2 (some .int), Cond.methodLink RL 50 yX5_joined, Cond.instanceMethod yX5_joined, Cond.selects RX5 yX5_joined yX5_joined, Cond.code yX5_joined cX5_joined 2 (some .int), Cond.methodLink RX5 163 yX5_isThing, Cond.instanceMethod yX5_isThing, Cond.selects RX5 yX5_isThing yX5_isThing, Cond.code yX5_isThing cX5_isThing 2 (some .boolean), Cond.methodLink RL 51 yX4_at, Cond.instanceMethod yX4_at, Cond.selects RX4 yX4_at yX4_at, Cond.code yX4_at cX4_at 3 (some .int), Cond.methodLink RX4 117 yX1_hasRow, Cond.instanceMethod yX1_hasRow, Cond.selects RX1 yX1_hasRow yX1_hasRow, Cond.code yX1_hasRow cX1_hasRow 2 (some .boolean), Cond.methodLink RL 54 yX5_at, Cond.instanceMethod yX5_at, Cond.selects RX5 yX5_at yX5_at, Cond.code yX5_at cX5_at 3 (some .int), Cond.methodLink RX5 171 yX5_isRow]
def wsL_law0_r19 : List Cond := [Cond.instanceMethod yX5_isRow, Cond.selects RX5 yX5_isRow yX5_isRow, Cond.code yX5_isRow cX5_isRow 2 (some .boolean), Cond.methodLink RX5 174 yX5_numberOf, Cond.instanceMethod yX5_numberOf, Cond.selects RX5 yX5_numberOf yX5_numberOf, Cond.code yX5_numberOf cX5_numberOf 3 (some .int), Cond.methodLink RL 55 yX4_put, Cond.instanceMethod yX4_put, Cond.selects RX4 yX4_put yX4_put, Cond.code yX4_put cX4_put 4 (some .int), Cond.methodLink RX4 120 yX0_keepLine, Cond.instanceMethod yX0_keepLine, Cond.selects RX0 yX0_keepLine yX0_keepLine, Cond.code yX0_keepLine cX0_keepLine 3 none, Cond.fieldLink RX0 34 "PartSums$Ground" "lines" "[[I", Cond.fieldLink RX0 39 "PartSums$Acts" "next" "I", Cond.methodLink RX0 42 arraycopyName, Cond.fieldLink RX0 48 "PartSums$Ground" "pairs" "J", Cond.methodLink RX0 52 yX0_goOn, Cond.instanceMethod yX0_goOn, Cond.selects RX0 yX0_goOn yX0_goOn, Cond.code yX0_goOn cX0_goOn 2 none, Cond.methodLink RX0 56 Lib.Math.min.name]
def wsL_law0_r20 : List Cond := [Cond.methodLink RX4 124 yX4_reduce, Cond.static yX4_reduce, Cond.code yX4_reduce cX4_reduce 4 (some .int), Cond.constantLong RX4 257 (1000003), Cond.methodLink RL 59 yX5_put, Cond.instanceMethod yX5_put, Cond.selects RX5 yX5_put yX5_put, Cond.code yX5_put cX5_put 4 (some .int), Cond.methodLink RX5 168 yX5_snap, Cond.instanceMethod yX5_snap, Cond.selects RX5 yX5_snap yX5_snap, Cond.code yX5_snap cX5_snap 2 none, Cond.methodLink RX5 178 yX5_rest, Cond.static yX5_rest, Cond.code yX5_rest cX5_rest 4 (some .int), Cond.constantLong RX5 166 (1000003), Cond.methodLink RL 60 yX4_lay, Cond.instanceMethod yX4_lay, Cond.selects RX4 yX4_lay yX4_lay, Cond.code yX4_lay cX4_lay 4 (some .int), Cond.methodLink RX4 128 yX4_measureAll, Cond.static yX4_measureAll, Cond.code yX4_measureAll cX4_measureAll 4 none, Cond.methodLink RX4 132 yX1_countSets]
def wsL_law0_r21 : List Cond := [Cond.methodLink RX4 259 yX4_measureSet, Cond.static yX4_measureSet, Cond.code yX4_measureSet cX4_measureSet 4 (some .int), Cond.methodLink RX4 263 yX4_measurePairs, Cond.static yX4_measurePairs, Cond.code yX4_measurePairs cX4_measurePairs 7 (some .int), Cond.methodLink RX4 275 yX4_leastThing, Cond.methodLink RX4 270 yJ6_bitCount_0f7a4, Cond.methodLink RX4 266 yX4_hangsWhole, Cond.static yX4_hangsWhole, Cond.code yX4_hangsWhole cX4_hangsWhole 5 (some .boolean), Cond.methodLink RX4 135 yX4_settle, Cond.instanceMethod yX4_settle, Cond.selects RX4 yX4_settle yX4_settle, Cond.code yX4_settle cX4_settle 3 (some .int), Cond.methodLink RX4 238 arraycopyName, Cond.methodLink RX4 244 yX1_allThings, Cond.instanceMethod yX1_allThings, Cond.selects RX1 yX1_allThings yX1_allThings, Cond.code yX1_allThings cX1_allThings 1 (some .int), Cond.methodLink RL 63 yX5_lay, Cond.instanceMethod yX5_lay, Cond.selects RX5 yX5_lay yX5_lay, Cond.code yX5_lay cX5_lay 4 (some .int)]
def wsL_law0_r22 : List Cond := [Cond.methodLink RX5 188 yX5_laid, Cond.instanceMethod yX5_laid, Cond.selects RX5 yX5_laid yX5_laid, Cond.code yX5_laid cX5_laid 3 (some .int), Cond.methodLink RX5 182 yX5_isFull, Cond.instanceMethod yX5_isFull, Cond.selects RX5 yX5_isFull yX5_isFull, Cond.code yX5_isFull cX5_isFull 2 (some .boolean), Cond.methodLink RX5 185 yX5_isTogether, Cond.instanceMethod yX5_isTogether, Cond.selects RX5 yX5_isTogether yX5_isTogether, Cond.code yX5_isTogether cX5_isTogether 5 (some .boolean), Cond.methodLink RX5 191 yX5_becomes, Cond.instanceMethod yX5_becomes, Cond.selects RX5 yX5_becomes yX5_becomes, Cond.code yX5_becomes cX5_becomes 4 (some .int), Cond.methodLink RL 64 yX4_sum, Cond.instanceMethod yX4_sum, Cond.selects RX4 yX4_sum yX4_sum, Cond.code yX4_sum cX4_sum 3 (some .int), Cond.methodLink RX4 139 yX4_transformRow, Cond.instanceMethod yX4_transformRow, Cond.selects RX4 yX4_transformRow yX4_transformRow, Cond.code yX4_transformRow cX4_transformRow 4 (some .int)]
def wsL_law0_r23 : List Cond := [Cond.methodLink RX4 168 yX4_transform, Cond.static yX4_transform, Cond.code yX4_transform cX4_transform 8 none, Cond.methodLink RX4 251 yX4_turnTwo, Cond.static yX4_turnTwo, Cond.code yX4_turnTwo cX4_turnTwo 11 none, Cond.constantLong RX4 255 (500002), Cond.methodLink RL 68 yX5_sum, Cond.instanceMethod yX5_sum, Cond.selects RX5 yX5_sum yX5_sum, Cond.code yX5_sum cX5_sum 3 (some .int), Cond.methodLink RX5 198 yX5_sums, Cond.instanceMethod yX5_sums, Cond.selects RX5 yX5_sums yX5_sums, Cond.code yX5_sums cX5_sums 4 (some .int), Cond.methodLink RX5 194 yX5_laysSums, Cond.instanceMethod yX5_laysSums, Cond.selects RX5 yX5_laysSums yX5_laysSums, Cond.code yX5_laysSums cX5_laysSums 9 none, Cond.methodLink RL 69 yX4_back, Cond.instanceMethod yX4_back, Cond.selects RX4 yX4_back yX4_back, Cond.code yX4_back cX4_back 3 (some .int), Cond.methodLink RL 72 yX5_back]
def wsL_law0_r24 : List Cond := [Cond.instanceMethod yX5_back, Cond.selects RX5 yX5_back yX5_back, Cond.code yX5_back cX5_back 3 (some .int), Cond.methodLink RL 73 yX4_times, Cond.instanceMethod yX4_times, Cond.selects RX4 yX4_times yX4_times, Cond.code yX4_times cX4_times 5 (some .int), Cond.methodLink RX4 143 yX4_multiplyApart, Cond.instanceMethod yX4_multiplyApart, Cond.selects RX4 yX4_multiplyApart yX4_multiplyApart, Cond.code yX4_multiplyApart cX4_multiplyApart 7 none, Cond.methodLink RX4 147 yX4_multiplyTransformed, Cond.instanceMethod yX4_multiplyTransformed, Cond.selects RX4 yX4_multiplyTransformed yX4_multiplyTransformed, Cond.code yX4_multiplyTransformed cX4_multiplyTransformed 5 none, Cond.methodLink RX4 247 yX4_combine, Cond.static yX4_combine, Cond.code yX4_combine cX4_combine 3 (some .int), Cond.methodLink RL 77 yX5_times, Cond.instanceMethod yX5_times, Cond.selects RX5 yX5_times yX5_times, Cond.code yX5_times cX5_times 8 (some .int), Cond.methodLink RX5 202 yX5_makes, Cond.static yX5_makes]
def wsL_law0_r25 : List Cond := [Cond.code yX5_makes cX5_makes 3 (some .int), Cond.methodLink RX5 206 yX5_product, Cond.instanceMethod yX5_product, Cond.selects RX5 yX5_product yX5_product, Cond.code yX5_product cX5_product 4 (some .int), Cond.methodLink RL 78 yX4_power, Cond.instanceMethod yX4_power, Cond.selects RX4 yX4_power yX4_power, Cond.code yX4_power cX4_power 4 (some .int), Cond.methodLink RX4 151 yX3_slopesOfPower, Cond.instanceMethod yX3_slopesOfPower, Cond.selects RX3 yX3_slopesOfPower yX3_slopesOfPower, Cond.code yX3_slopesOfPower cX3_slopesOfPower 4 none, Cond.constantLong RX3 22 (1000003), Cond.methodLink RX3 18 yX3_slopesOfChoices, Cond.instanceMethod yX3_slopesOfChoices, Cond.selects RX3 yX3_slopesOfChoices yX3_slopesOfChoices, Cond.code yX3_slopesOfChoices cX3_slopesOfChoices 3 none, Cond.static yX4_raise, Cond.code yX4_raise cX4_raise 7 (some .int), Cond.methodLink RX4 155 yX4_composeRow, Cond.instanceMethod yX4_composeRow, Cond.selects RX4 yX4_composeRow yX4_composeRow, Cond.code yX4_composeRow cX4_composeRow 4 (some .int)]
def wsL_law0_r26 : List Cond := [Cond.fieldLink RX4 182 "PartSums$Series" "grown" "[J", Cond.methodLink RX4 178 yX3_compose, Cond.instanceMethod yX3_compose, Cond.selects RX3 yX3_compose yX3_compose, Cond.code yX3_compose cX3_compose 10 none, Cond.methodLink RX3 33 yX3_takeOut, Cond.instanceMethod yX3_takeOut, Cond.selects RX3 yX3_takeOut yX3_takeOut, Cond.code yX3_takeOut cX3_takeOut 8 (some .long), Cond.methodLink RL 81 yX5_power, Cond.instanceMethod yX5_power, Cond.selects RX5 yX5_power yX5_power, Cond.code yX5_power cX5_power 5 (some .int), Cond.methodLink RX5 209 yX5_laysOne, Cond.instanceMethod yX5_laysOne, Cond.selects RX5 yX5_laysOne yX5_laysOne, Cond.code yX5_laysOne cX5_laysOne 2 none, Cond.methodLink RX5 212 yX5_apart, Cond.instanceMethod yX5_apart, Cond.selects RX5 yX5_apart yX5_apart, Cond.code yX5_apart cX5_apart 6 none, Cond.methodLink RL 82 yX4_inverse, Cond.instanceMethod yX4_inverse, Cond.selects RX4 yX4_inverse yX4_inverse]
def wsL_law0_r27 : List Cond := [Cond.code yX4_inverse cX4_inverse 3 (some .int), Cond.methodLink RX4 159 yX3_slopesOfInverse, Cond.instanceMethod yX3_slopesOfInverse, Cond.selects RX3 yX3_slopesOfInverse yX3_slopesOfInverse, Cond.code yX3_slopesOfInverse cX3_slopesOfInverse 5 none, Cond.constant RX3 28 (1000001), Cond.methodLink RL 85 yX5_inverse, Cond.instanceMethod yX5_inverse, Cond.selects RX5 yX5_inverse yX5_inverse, Cond.code yX5_inverse cX5_inverse 9 (some .int), Cond.methodLink RX5 216 yX5_turned, Cond.static yX5_turned, Cond.code yX5_turned cX5_turned 7 (some .long), Cond.constant RX5 215 (1000001), Cond.methodLink RL 86 yX4_allWays, Cond.instanceMethod yX4_allWays, Cond.selects RX4 yX4_allWays yX4_allWays, Cond.code yX4_allWays cX4_allWays 3 (some .int), Cond.methodLink RX4 162 yX3_slopesOfAllWays, Cond.instanceMethod yX3_slopesOfAllWays, Cond.selects RX3 yX3_slopesOfAllWays yX3_slopesOfAllWays, Cond.code yX3_slopesOfAllWays cX3_slopesOfAllWays 2 none, Cond.methodLink RL 89 yX5_allWays, Cond.instanceMethod yX5_allWays]
def wsL_law0_r28 : List Cond := [Cond.selects RX5 yX5_allWays yX5_allWays, Cond.code yX5_allWays cX5_allWays 7 (some .int), Cond.methodLink RL 90 yX4_roots, Cond.instanceMethod yX4_roots, Cond.selects RX4 yX4_roots yX4_roots, Cond.code yX4_roots cX4_roots 3 (some .int), Cond.methodLink RX4 165 yX3_slopesOfRoots, Cond.instanceMethod yX3_slopesOfRoots, Cond.selects RX3 yX3_slopesOfRoots yX3_slopesOfRoots, Cond.code yX3_slopesOfRoots cX3_slopesOfRoots 2 none, Cond.methodLink RL 93 yX5_roots, Cond.instanceMethod yX5_roots, Cond.selects RX5 yX5_roots yX5_roots, Cond.code yX5_roots cX5_roots 7 (some .int), Cond.methodLink RL 94 yX4_covers, Cond.instanceMethod yX4_covers, Cond.selects RX4 yX4_covers yX4_covers, Cond.code yX4_covers cX4_covers 4 (some .int), Cond.methodLink RX4 172 yX4_raise, Cond.methodLink RL 97 yX5_covers, Cond.instanceMethod yX5_covers, Cond.selects RX5 yX5_covers yX5_covers, Cond.code yX5_covers cX5_covers 6 (some .int), Cond.constant RX5 223 (1000003)]
def wsL_law0_r29 : List Cond := [Cond.methodLink RX5 220 yX5_isTold, Cond.instanceMethod yX5_isTold, Cond.selects RX5 yX5_isTold yX5_isTold, Cond.code yX5_isTold cX5_isTold 2 (some .boolean), Cond.methodLink RL 98 yX4_partings, Cond.instanceMethod yX4_partings, Cond.selects RX4 yX4_partings yX4_partings, Cond.code yX4_partings cX4_partings 3 (some .int), Cond.methodLink RX4 175 yX3_slopesOfCount, Cond.instanceMethod yX3_slopesOfCount, Cond.selects RX3 yX3_slopesOfCount yX3_slopesOfCount, Cond.code yX3_slopesOfCount cX3_slopesOfCount 3 none, Cond.methodLink RL 101 yX5_partings, Cond.instanceMethod yX5_partings, Cond.selects RX5 yX5_partings yX5_partings, Cond.code yX5_partings cX5_partings 3 (some .int), Cond.methodLink RX5 224 yX5_laysWays, Cond.instanceMethod yX5_laysWays, Cond.selects RX5 yX5_laysWays yX5_laysWays, Cond.code yX5_laysWays cX5_laysWays 4 none, Cond.methodLink RL 102 yX4_cheapest, Cond.instanceMethod yX4_cheapest, Cond.selects RX4 yX4_cheapest yX4_cheapest, Cond.code yX4_cheapest cX4_cheapest 2 (some .int)]
def wsL_law0_r30 : List Cond := [Cond.constant RX4 189 (1000000), Cond.methodLink RX4 186 yX4_priceParts, Cond.instanceMethod yX4_priceParts, Cond.selects RX4 yX4_priceParts yX4_priceParts, Cond.code yX4_priceParts cX4_priceParts 3 none, Cond.methodLink RX4 278 yX4_leastPrice, Cond.instanceMethod yX4_leastPrice, Cond.selects RX4 yX4_leastPrice yX4_leastPrice, Cond.code yX4_leastPrice cX4_leastPrice 5 (some .int), Cond.methodLink RX4 284 Lib.Math.min.name, Cond.methodLink RX4 281 yX4_priceWith, Cond.instanceMethod yX4_priceWith, Cond.selects RX4 yX4_priceWith yX4_priceWith, Cond.code yX4_priceWith cX4_priceWith 5 (some .int), Cond.methodLink RL 105 yX5_cheapest, Cond.instanceMethod yX5_cheapest, Cond.selects RX5 yX5_cheapest yX5_cheapest, Cond.code yX5_cheapest cX5_cheapest 2 (some .int), Cond.methodLink RX5 227 yX5_laysPrices, Cond.instanceMethod yX5_laysPrices, Cond.selects RX5 yX5_laysPrices yX5_laysPrices, Cond.code yX5_laysPrices cX5_laysPrices 4 none, Cond.methodLink RL 106 yL_part, Cond.static yL_part]
def wsL_law0_r31 : List Cond := [Cond.initialized RL, Cond.codeWith yL_part cL_part 5 (some .int) [(0, 10, 13, 13)], Cond.classLink RL 13 "java/util/NoSuchElementException", Cond.methodLink RL 7 yX4_part, Cond.instanceMethod yX4_part, Cond.selects RX4 yX4_part yX4_part, Cond.code yX4_part cX4_part 4 (some .int), Cond.classLink RX4 193 "java/util/NoSuchElementException", Cond.initialized "java/util/NoSuchElementException", Cond.methodLink RX4 190 yX4_partOrNone, Cond.instanceMethod yX4_partOrNone, Cond.selects RX4 yX4_partOrNone yX4_partOrNone, Cond.code yX4_partOrNone cX4_partOrNone 5 (some .int), Cond.methodLink RX4 289 yX4_firstPart, Cond.instanceMethod yX4_firstPart, Cond.selects RX4 yX4_firstPart yX4_firstPart, Cond.code yX4_firstPart cX4_firstPart 5 (some .int), Cond.methodLink RL 111 yX5_part, Cond.instanceMethod yX5_part, Cond.selects RX5 yX5_part yX5_part, Cond.code yX5_part cX5_part 6 (some .int), Cond.methodLink RX5 230 yX5_refuse, Cond.instanceMethod yX5_refuse, Cond.selects RX5 yX5_refuse yX5_refuse]
def wsL_law0_r32 : List Cond := [Cond.code yX5_refuse cX5_refuse 1 (some .int), Cond.methodLink RL 112 yX5_thrown, Cond.instanceMethod yX5_thrown, Cond.selects RX5 yX5_thrown yX5_thrown, Cond.code yX5_thrown cX5_thrown 1 (some .int), Cond.methodLink RL 115 yX4_colours, Cond.instanceMethod yX4_colours, Cond.selects RX4 yX4_colours yX4_colours, Cond.code yX4_colours cX4_colours 2 (some .int), Cond.methodLink RX4 200 yX4_paintFewest, Cond.instanceMethod yX4_paintFewest, Cond.selects RX4 yX4_paintFewest yX4_paintFewest, Cond.code yX4_paintFewest cX4_paintFewest 4 (some .int), Cond.methodLink RX4 292 yX4_paintFrom, Cond.static yX4_paintFrom, Cond.code yX4_paintFrom cX4_paintFrom 8 (some .boolean), Cond.methodLink RL 118 yX5_colours, Cond.instanceMethod yX5_colours, Cond.selects RX5 yX5_colours yX5_colours, Cond.code yX5_colours cX5_colours 2 (some .int), Cond.methodLink RX5 236 yX5_fewest, Cond.instanceMethod yX5_fewest, Cond.selects RX5 yX5_fewest yX5_fewest, Cond.code yX5_fewest cX5_fewest 3 (some .int)]
def wsL_law0_r33 : List Cond := [Cond.methodLink RX5 233 yX5_laysPlain, Cond.instanceMethod yX5_laysPlain, Cond.selects RX5 yX5_laysPlain yX5_laysPlain, Cond.code yX5_laysPlain cX5_laysPlain 4 none, Cond.methodLink RL 119 yX4_colour, Cond.instanceMethod yX4_colour, Cond.selects RX4 yX4_colour yX4_colour, Cond.code yX4_colour cX4_colour 5 (some .int), Cond.methodLink RL 122 yX5_colour, Cond.instanceMethod yX5_colour, Cond.selects RX5 yX5_colour yX5_colour, Cond.code yX5_colour cX5_colour 3 (some .int), Cond.methodLink RX5 239 yX5_paints, Cond.instanceMethod yX5_paints, Cond.selects RX5 yX5_paints yX5_paints, Cond.code yX5_paints cX5_paints 7 (some .boolean), Cond.methodLink RL 123 yX4_colourings, Cond.instanceMethod yX4_colourings, Cond.selects RX4 yX4_colourings yX4_colourings, Cond.code yX4_colourings cX4_colourings 3 (some .long), Cond.constantLong RX4 203 (-1), Cond.methodLink RX4 205 yX3_slopesOfChoices, Cond.methodLink RL 127 yX5_colourings, Cond.instanceMethod yX5_colourings]
def wsL_law0_r34 : List Cond := [Cond.selects RX5 yX5_colourings yX5_colourings, Cond.code yX5_colourings cX5_colourings 8 (some .long), Cond.constantLong RX5 242 (-1), Cond.methodLink RL 128 yX4_hangs, Cond.instanceMethod yX4_hangs, Cond.selects RX4 yX4_hangs yX4_hangs, Cond.code yX4_hangs cX4_hangs 2 (some .int), Cond.methodLink RL 131 yX5_hangs, Cond.instanceMethod yX5_hangs, Cond.selects RX5 yX5_hangs yX5_hangs, Cond.code yX5_hangs cX5_hangs 4 (some .int), Cond.methodLink RL 132 yX4_weigh, Cond.instanceMethod yX4_weigh, Cond.selects RX4 yX4_weigh yX4_weigh, Cond.code yX4_weigh cX4_weigh 4 (some .int), Cond.methodLink RL 135 yX5_weigh, Cond.instanceMethod yX5_weigh, Cond.selects RX5 yX5_weigh yX5_weigh, Cond.code yX5_weigh cX5_weigh 4 (some .int), Cond.methodLink RL 136 yX4_join, Cond.instanceMethod yX4_join, Cond.selects RX4 yX4_join yX4_join, Cond.code yX4_join cX4_join 4 (some .int), Cond.methodLink RX4 208 yX1_areMates]
def wsL_law0_r35 : List Cond := [Cond.instanceMethod yX1_areMates, Cond.selects RX1 yX1_areMates yX1_areMates, Cond.code yX1_areMates cX1_areMates 3 (some .boolean), Cond.methodLink RX1 34 yX1_mates, Cond.methodLink RX4 212 yX1_turnPair, Cond.instanceMethod yX1_turnPair, Cond.selects RX1 yX1_turnPair yX1_turnPair, Cond.code yX1_turnPair cX1_turnPair 3 none, Cond.methodLink RL 140 yX5_join, Cond.instanceMethod yX5_join, Cond.selects RX5 yX5_join yX5_join, Cond.code yX5_join cX5_join 4 (some .int), Cond.methodLink RL 141 yX4_name, Cond.instanceMethod yX4_name, Cond.selects RX4 yX4_name yX4_name, Cond.code yX4_name cX4_name 3 (some .int), Cond.methodLink RX4 215 yX0_keepNames, Cond.instanceMethod yX0_keepNames, Cond.selects RX0 yX0_keepNames yX0_keepNames, Cond.code yX0_keepNames cX0_keepNames 3 none, Cond.methodLink RX4 218 yX1_swapNames, Cond.instanceMethod yX1_swapNames, Cond.selects RX1 yX1_swapNames yX1_swapNames, Cond.code yX1_swapNames cX1_swapNames 7 none]
def wsL_law0_r36 : List Cond := [Cond.methodLink RX1 44 yX1_areMates, Cond.methodLink RX1 48 yX1_turnPair, Cond.methodLink RX4 221 yX1_countParted, Cond.instanceMethod yX1_countParted, Cond.selects RX1 yX1_countParted yX1_countParted, Cond.code yX1_countParted cX1_countParted 6 (some .int), Cond.methodLink RL 144 yX5_name, Cond.instanceMethod yX5_name, Cond.selects RX5 yX5_name yX5_name, Cond.code yX5_name cX5_name 5 (some .int), Cond.methodLink RX5 247 yX5_swaps, Cond.instanceMethod yX5_swaps, Cond.selects RX5 yX5_swaps yX5_swaps, Cond.code yX5_swaps cX5_swaps 5 none, Cond.methodLink RX5 244 yX5_swapped, Cond.static yX5_swapped, Cond.code yX5_swapped cX5_swapped 3 (some .int), Cond.methodLink RL 145 yX4_drawn, Cond.instanceMethod yX4_drawn, Cond.selects RX4 yX4_drawn yX4_drawn, Cond.code yX4_drawn cX4_drawn 5 (some .int), Cond.methodLink RX4 224 yX4_doDeed, Cond.instanceMethod yX4_doDeed, Cond.selects RX4 yX4_doDeed yX4_doDeed]
def wsL_law0_r37 : List Cond := [Cond.code yX4_doDeed cX4_doDeed 6 (some .int), Cond.methodLink RX4 297 yX4_nextSeed, Cond.static yX4_nextSeed, Cond.code yX4_nextSeed cX4_nextSeed 1 (some .int), Cond.constant RX4 296 (1103515245), Cond.methodLink RX4 300 yX4_draw, Cond.static yX4_draw, Cond.code yX4_draw cX4_draw 2 (some .int), Cond.methodLink RL 148 yX5_drawn, Cond.instanceMethod yX5_drawn, Cond.selects RX5 yX5_drawn yX5_drawn, Cond.code yX5_drawn cX5_drawn 4 (some .int), Cond.fieldLink RX5 251 "PartSumsModel" "seed" "I", Cond.methodLink RX5 258 yX5_does, Cond.instanceMethod yX5_does, Cond.selects RX5 yX5_does yX5_does, Cond.code yX5_does cX5_does 4 none, Cond.methodLink RX5 255 yX5_draw, Cond.instanceMethod yX5_draw, Cond.selects RX5 yX5_draw yX5_draw, Cond.code yX5_draw cX5_draw 2 (some .int), Cond.constant RX5 254 (1103515245), Cond.methodLink RL 149 yX4_undo, Cond.instanceMethod yX4_undo]
def wsL_law0_r38 : List Cond := [Cond.selects RX4 yX4_undo yX4_undo, Cond.code yX4_undo cX4_undo 1 (some .int), Cond.methodLink RX4 227 yX0_takeBack, Cond.instanceMethod yX0_takeBack, Cond.selects RX0 yX0_takeBack yX0_takeBack, Cond.code yX0_takeBack cX0_takeBack 2 none, Cond.methodLink RX0 62 yX1_swapNames, Cond.methodLink RL 152 yX5_undo, Cond.instanceMethod yX5_undo, Cond.selects RX5 yX5_undo yX5_undo, Cond.code yX5_undo cX5_undo 1 (some .int), Cond.methodLink RL 153 yX4_image, Cond.instanceMethod yX4_image, Cond.selects RX4 yX4_image yX4_image, Cond.code yX4_image cX4_image 3 (some .boolean), Cond.fieldLink RX4 234 "PartSums$Ground" "filled" "Z", Cond.methodLink RX4 231 yX1_copyFrom, Cond.instanceMethod yX1_copyFrom, Cond.selects RX1 yX1_copyFrom yX1_copyFrom, Cond.code yX1_copyFrom cX1_copyFrom 3 none, Cond.methodLink RL 156 yX5_image, Cond.instanceMethod yX5_image, Cond.selects RX5 yX5_image yX5_image, Cond.code yX5_image cX5_image 2 (some .boolean)]
def wsL_law0_r39 : List Cond := [Cond.methodLink RL 157 yX4_restore, Cond.instanceMethod yX4_restore, Cond.selects RX4 yX4_restore yX4_restore, Cond.code yX4_restore cX4_restore 3 (some .boolean), Cond.methodLink RL 160 yX5_restore, Cond.instanceMethod yX5_restore, Cond.selects RX5 yX5_restore yX5_restore, Cond.code yX5_restore cX5_restore 2 (some .boolean)]
def wsL_law0 : List Cond := (wsL_law0_r1 ++ (wsL_law0_r2 ++ (wsL_law0_r3 ++ (wsL_law0_r4 ++ (wsL_law0_r5 ++ (wsL_law0_r6 ++ (wsL_law0_r7 ++ (wsL_law0_r8 ++ (wsL_law0_r9 ++ (wsL_law0_r10 ++ (wsL_law0_r11 ++ (wsL_law0_r12 ++ (wsL_law0_r13 ++ (wsL_law0_r14 ++ (wsL_law0_r15 ++ (wsL_law0_r16 ++ (wsL_law0_r17 ++ (wsL_law0_r18 ++ (wsL_law0_r19 ++ (wsL_law0_r20 ++ (wsL_law0_r21 ++ (wsL_law0_r22 ++ (wsL_law0_r23 ++ (wsL_law0_r24 ++ (wsL_law0_r25 ++ (wsL_law0_r26 ++ (wsL_law0_r27 ++ (wsL_law0_r28 ++ (wsL_law0_r29 ++ (wsL_law0_r30 ++ (wsL_law0_r31 ++ (wsL_law0_r32 ++ (wsL_law0_r33 ++ (wsL_law0_r34 ++ (wsL_law0_r35 ++ (wsL_law0_r36 ++ (wsL_law0_r37 ++ (wsL_law0_r38 ++ wsL_law0_r39)))))))))))))))))))))))))))))))))))))) ++ wsX40 ++ wsX50 ++ wsX10 ++ wsX00 ++ wsX20 ++ wsX30 ++ ([] : List Cond)
def wsL_law : List Cond := wsL_law0 ++ (vx_atS RX4 197 "java/util/NoSuchElementException" ["java/lang/RuntimeException", "java/lang/Exception"]).filter goodWord
set_option maxRecDepth 20000 in
theorem wsL_law_in0 : ∀ w ∈ wsL_law0, w ∈ lw_tbl := fun w h => (goodIn_p wsL_law0 [87, 90, 95, 121, 152, 196, 794, 237, 241, 245, 781, 786, 249, 790, 253, 257, 261, 265, 268, 272, 275, 278, 283, 287, 291, 297, 301, 304, 307, 312, 315, 318, 321, 325, 335, 339, 343, 348, 352, 357, 360, 366, 370, 377, 873, 877, 880, 883, 887, 891, 895, 899, 903, 906, 910, 914, 917, 921, 924, 927, 930, 934, 937, 381, 941, 385, 389, 393, 396, 945, 949, 953, 957, 961, 403, 407, 411, 965, 969, 415, 419, 423, 973, 977, 427, 431, 981, 985, 989, 435, 439, 444, 448, 993, 997, 1000, 453, 456, 460, 463, 468, 472, 477, 1005, 1009, 1013, 1017, 1021, 481, 485, 488, 491, 1025, 1029, 1033, 496, 1037, 500, 504, 508, 511, 1041, 1044, 1048, 515, 519, 523, 527, 531, 535, 539, 1052, 1056, 1060, 544, 548, 1064, 1067, 553, 557, 1072, 561, 565, 1076, 569, 1080, 1084, 574, 578, 1089, 1093, 582, 586, 590, 594, 1097, 1101, 700, 704, 708, 1105, 1109, 777, 600, 604, 607, 1113, 1117, 1121, 611, 1125, 1129, 615, 1133, 621, 1138, 625, 1142, 629, 633, 638, 1146, 642, 646, 650, 656, 1150, 1154, 1157, 660, 664, 667, 671, 1161, 1165, 1169, 675, 679, 1174, 684, 688, 1178, 692, 1182] (by decide +kernel) (by decide +kernel) w h).1
theorem wsL_law_x0 : ∀ w ∈ (vx_atS RX4 197 "java/util/NoSuchElementException" ["java/lang/RuntimeException", "java/lang/Exception"]).filter goodWord, w ∈ lw_tbl := by decide +kernel
theorem wsL_law_in : ∀ w ∈ wsL_law, w ∈ lw_tbl := fun w h => (List.mem_append.mp h).elim (fun h => wsL_law_in0 w h) (fun h => wsL_law_x0 w h)
theorem inlX0 : ∀ w ∈ wsX00, w ∈ wsL_law := fun _ h => List.mem_append_left _ (List.mem_append_left _ (List.mem_append_left _ (List.mem_append_left _ (List.mem_append_right _ h))))
theorem inX0 : ∀ w ∈ wsX00, w ∈ lw_tbl := fun w h => wsL_law_in w (inlX0 w h)
theorem inlX1 : ∀ w ∈ wsX10, w ∈ wsL_law := fun _ h => List.mem_append_left _ (List.mem_append_left _ (List.mem_append_left _ (List.mem_append_left _ (List.mem_append_left _ (List.mem_append_right _ h)))))
theorem inX1 : ∀ w ∈ wsX10, w ∈ lw_tbl := fun w h => wsL_law_in w (inlX1 w h)
theorem inlX2 : ∀ w ∈ wsX20, w ∈ wsL_law := fun _ h => List.mem_append_left _ (List.mem_append_left _ (List.mem_append_left _ (List.mem_append_right _ h)))
theorem inX2 : ∀ w ∈ wsX20, w ∈ lw_tbl := fun w h => wsL_law_in w (inlX2 w h)
theorem inlX3 : ∀ w ∈ wsX30, w ∈ wsL_law := fun _ h => List.mem_append_left _ (List.mem_append_left _ (List.mem_append_right _ h))
theorem inX3 : ∀ w ∈ wsX30, w ∈ lw_tbl := fun w h => wsL_law_in w (inlX3 w h)
theorem inlX4 : ∀ w ∈ wsX40, w ∈ wsL_law := fun _ h => List.mem_append_left _ (List.mem_append_left _ (List.mem_append_left _ (List.mem_append_left _ (List.mem_append_left _ (List.mem_append_left _ (List.mem_append_left _ (List.mem_append_right _ h)))))))
theorem inX4 : ∀ w ∈ wsX40, w ∈ lw_tbl := fun w h => wsL_law_in w (inlX4 w h)
theorem inlX5 : ∀ w ∈ wsX50, w ∈ wsL_law := fun _ h => List.mem_append_left _ (List.mem_append_left _ (List.mem_append_left _ (List.mem_append_left _ (List.mem_append_left _ (List.mem_append_left _ (List.mem_append_right _ h))))))
theorem inX5 : ∀ w ∈ wsX50, w ∈ lw_tbl := fun w h => wsL_law_in w (inlX5 w h)
theorem inJx145de : ∀ w ∈ wsJx145de0, w ∈ lw_tbl := by decide +kernel
theorem inJx9f9b0 : ∀ w ∈ wsJx9f9b00, w ∈ lw_tbl := by decide +kernel
theorem inJxb160c : ∀ w ∈ wsJxb160c0, w ∈ lw_tbl := by decide +kernel
theorem inJ6 : ∀ w ∈ wsJ60, w ∈ lw_tbl := by decide +kernel
theorem inJ13 : ∀ w ∈ wsJ130, w ∈ lw_tbl := by decide +kernel
theorem inJ9 : ∀ w ∈ wsJ90, w ∈ lw_tbl := by decide +kernel
theorem inJ0 : ∀ w ∈ wsJ00, w ∈ lw_tbl := by decide +kernel
theorem inJ1 : ∀ w ∈ wsJ10, w ∈ lw_tbl := by decide +kernel
theorem inJ2 : ∀ w ∈ wsJ20, w ∈ lw_tbl := by decide +kernel
theorem inJ10 : ∀ w ∈ wsJ100, w ∈ lw_tbl := by decide +kernel
theorem inJxfd54e : ∀ w ∈ wsJxfd54e0, w ∈ lw_tbl := by decide +kernel
theorem inJx3cf43 : ∀ w ∈ wsJx3cf430, w ∈ lw_tbl := by decide +kernel
theorem inJ3 : ∀ w ∈ wsJ30, w ∈ lw_tbl := by decide +kernel
theorem dX0_init_0 : decode cX0_init 0 = .ok (.aload_n 0, 1) := by decide +kernel
theorem dX0_init_1 : decode cX0_init 1 = .ok (.invokespecial 3, 3) := by decide +kernel
theorem dX0_init_4 : decode cX0_init 4 = .ok (.aload_n 0, 1) := by decide +kernel
theorem dX0_init_5 : decode cX0_init 5 = .ok (.bipush 8, 2) := by decide +kernel
theorem dX0_init_7 : decode cX0_init 7 = .ok (.newarray .int, 2) := by decide +kernel
theorem dX0_init_9 : decode cX0_init 9 = .ok (.putfield 11, 3) := by decide +kernel
theorem dX0_init_12 : decode cX0_init 12 = .ok (.aload_n 0, 1) := by decide +kernel
theorem dX0_init_13 : decode cX0_init 13 = .ok (.bipush 8, 2) := by decide +kernel
theorem dX0_init_15 : decode cX0_init 15 = .ok (.sipush 256, 3) := by decide +kernel
theorem dX0_init_18 : decode cX0_init 18 = .ok (.multianewarray 15 2, 4) := by decide +kernel
theorem dX0_init_22 : decode cX0_init 22 = .ok (.putfield 17, 3) := by decide +kernel
theorem dX0_init_25 : decode cX0_init 25 = .ok (.aload_n 0, 1) := by decide +kernel
theorem dX0_init_26 : decode cX0_init 26 = .ok (.bipush 8, 2) := by decide +kernel
theorem dX0_init_28 : decode cX0_init 28 = .ok (.newarray .long, 2) := by decide +kernel
theorem dX0_init_30 : decode cX0_init 30 = .ok (.putfield 20, 3) := by decide +kernel
theorem dX0_init_33 : decode cX0_init 33 = .ok (.aload_n 0, 1) := by decide +kernel
theorem dX0_init_34 : decode cX0_init 34 = .ok (.bipush 8, 2) := by decide +kernel
theorem dX0_init_36 : decode cX0_init 36 = .ok (.newarray .int, 2) := by decide +kernel
theorem dX0_init_38 : decode cX0_init 38 = .ok (.putfield 24, 3) := by decide +kernel
theorem dX0_init_41 : decode cX0_init 41 = .ok (.aload_n 0, 1) := by decide +kernel
theorem dX0_init_42 : decode cX0_init 42 = .ok (.bipush 8, 2) := by decide +kernel
theorem dX0_init_44 : decode cX0_init 44 = .ok (.newarray .int, 2) := by decide +kernel
theorem dX0_init_46 : decode cX0_init 46 = .ok (.putfield 27, 3) := by decide +kernel
theorem dX0_init_49 : decode cX0_init 49 = .ok (.return_, 1) := by decide +kernel
theorem dX0_forget_0 : decode cX0_forget 0 = .ok (.aload_n 0, 1) := by decide +kernel
theorem dX0_forget_1 : decode cX0_forget 1 = .ok (.iconst 0, 1) := by decide +kernel
theorem dX0_forget_2 : decode cX0_forget 2 = .ok (.putfield 30, 3) := by decide +kernel
theorem dX0_forget_5 : decode cX0_forget 5 = .ok (.return_, 1) := by decide +kernel
set_option maxRecDepth 20000 in
theorem ggX0_keepLine_X0_goOn : GoodIn wsX0_keepLine wsX0_goOn := goodIn_r _ [14, 15, 3, 16, 17, 18, 19, 20, 25, 26, 27, 28, 29, 30, 31] (by decide +kernel) (by decide +kernel)
set_option maxRecDepth 20000 in
theorem gX0_keepLine_X0_goOn : GoodIn wsX0_keepLine (wsV RX0 52 RX0 yX0_goOn wsX0_goOn) := goodIn_app (goodIn_of _ (by decide +kernel)) ggX0_keepLine_X0_goOn
theorem dX0_keepLine_0 : decode cX0_keepLine 0 = .ok (.aload_n 1, 1) := by decide +kernel
theorem dX0_keepLine_1 : decode cX0_keepLine 1 = .ok (.getfield 34, 3) := by decide +kernel
theorem dX0_keepLine_4 : decode cX0_keepLine 4 = .ok (.iload_n 2, 1) := by decide +kernel
theorem dX0_keepLine_5 : decode cX0_keepLine 5 = .ok (.aaload, 1) := by decide +kernel
theorem dX0_keepLine_6 : decode cX0_keepLine 6 = .ok (.iconst 0, 1) := by decide +kernel
theorem dX0_keepLine_7 : decode cX0_keepLine 7 = .ok (.aload_n 0, 1) := by decide +kernel
theorem dX0_keepLine_8 : decode cX0_keepLine 8 = .ok (.getfield 17, 3) := by decide +kernel
theorem dX0_keepLine_11 : decode cX0_keepLine 11 = .ok (.aload_n 0, 1) := by decide +kernel
theorem dX0_keepLine_12 : decode cX0_keepLine 12 = .ok (.getfield 39, 3) := by decide +kernel
theorem dX0_keepLine_15 : decode cX0_keepLine 15 = .ok (.aaload, 1) := by decide +kernel
theorem dX0_keepLine_16 : decode cX0_keepLine 16 = .ok (.iconst 0, 1) := by decide +kernel
theorem dX0_keepLine_17 : decode cX0_keepLine 17 = .ok (.sipush 256, 3) := by decide +kernel
theorem dX0_keepLine_20 : decode cX0_keepLine 20 = .ok (.invokestatic 42, 3) := by decide +kernel
theorem dX0_keepLine_23 : decode cX0_keepLine 23 = .ok (.aload_n 0, 1) := by decide +kernel
theorem dX0_keepLine_24 : decode cX0_keepLine 24 = .ok (.getfield 20, 3) := by decide +kernel
theorem dX0_keepLine_27 : decode cX0_keepLine 27 = .ok (.aload_n 0, 1) := by decide +kernel
theorem dX0_keepLine_28 : decode cX0_keepLine 28 = .ok (.getfield 39, 3) := by decide +kernel
theorem dX0_keepLine_31 : decode cX0_keepLine 31 = .ok (.aload_n 1, 1) := by decide +kernel
theorem dX0_keepLine_32 : decode cX0_keepLine 32 = .ok (.getfield 48, 3) := by decide +kernel
theorem dX0_keepLine_35 : decode cX0_keepLine 35 = .ok (.lastore, 1) := by decide +kernel
theorem dX0_keepLine_36 : decode cX0_keepLine 36 = .ok (.aload_n 0, 1) := by decide +kernel
theorem dX0_keepLine_37 : decode cX0_keepLine 37 = .ok (.iload_n 2, 1) := by decide +kernel
theorem dX0_keepLine_38 : decode cX0_keepLine 38 = .ok (.invokevirtual 52, 3) := by decide +kernel
theorem dX0_keepLine_41 : decode cX0_keepLine 41 = .ok (.return_, 1) := by decide +kernel
set_option maxRecDepth 20000 in
theorem ggX0_keepNames_X0_goOn : GoodIn wsX0_keepNames wsX0_goOn := goodIn_r _ [8, 9, 2, 10, 11, 12, 13, 14, 15, 16, 17, 18, 19, 20, 21] (by decide +kernel) (by decide +kernel)
set_option maxRecDepth 20000 in
theorem gX0_keepNames_X0_goOn : GoodIn wsX0_keepNames (wsV RX0 52 RX0 yX0_goOn wsX0_goOn) := goodIn_app (goodIn_of _ (by decide +kernel)) ggX0_keepNames_X0_goOn
theorem dX0_keepNames_0 : decode cX0_keepNames 0 = .ok (.aload_n 0, 1) := by decide +kernel
theorem dX0_keepNames_1 : decode cX0_keepNames 1 = .ok (.getfield 24, 3) := by decide +kernel
theorem dX0_keepNames_4 : decode cX0_keepNames 4 = .ok (.aload_n 0, 1) := by decide +kernel
theorem dX0_keepNames_5 : decode cX0_keepNames 5 = .ok (.getfield 39, 3) := by decide +kernel
theorem dX0_keepNames_8 : decode cX0_keepNames 8 = .ok (.iload_n 1, 1) := by decide +kernel
theorem dX0_keepNames_9 : decode cX0_keepNames 9 = .ok (.iastore, 1) := by decide +kernel
theorem dX0_keepNames_10 : decode cX0_keepNames 10 = .ok (.aload_n 0, 1) := by decide +kernel
theorem dX0_keepNames_11 : decode cX0_keepNames 11 = .ok (.getfield 27, 3) := by decide +kernel
theorem dX0_keepNames_14 : decode cX0_keepNames 14 = .ok (.aload_n 0, 1) := by decide +kernel
theorem dX0_keepNames_15 : decode cX0_keepNames 15 = .ok (.getfield 39, 3) := by decide +kernel
theorem dX0_keepNames_18 : decode cX0_keepNames 18 = .ok (.iload_n 2, 1) := by decide +kernel
theorem dX0_keepNames_19 : decode cX0_keepNames 19 = .ok (.iastore, 1) := by decide +kernel
theorem dX0_keepNames_20 : decode cX0_keepNames 20 = .ok (.aload_n 0, 1) := by decide +kernel
theorem dX0_keepNames_21 : decode cX0_keepNames 21 = .ok (.iconst 5, 1) := by decide +kernel
theorem dX0_keepNames_22 : decode cX0_keepNames 22 = .ok (.invokevirtual 52, 3) := by decide +kernel
theorem dX0_keepNames_25 : decode cX0_keepNames 25 = .ok (.return_, 1) := by decide +kernel
theorem dX0_goOn_0 : decode cX0_goOn 0 = .ok (.aload_n 0, 1) := by decide +kernel
theorem dX0_goOn_1 : decode cX0_goOn 1 = .ok (.getfield 11, 3) := by decide +kernel
theorem dX0_goOn_4 : decode cX0_goOn 4 = .ok (.aload_n 0, 1) := by decide +kernel
theorem dX0_goOn_5 : decode cX0_goOn 5 = .ok (.getfield 39, 3) := by decide +kernel
theorem dX0_goOn_8 : decode cX0_goOn 8 = .ok (.iload_n 1, 1) := by decide +kernel
theorem dX0_goOn_9 : decode cX0_goOn 9 = .ok (.iastore, 1) := by decide +kernel
theorem dX0_goOn_10 : decode cX0_goOn 10 = .ok (.aload_n 0, 1) := by decide +kernel
theorem dX0_goOn_11 : decode cX0_goOn 11 = .ok (.aload_n 0, 1) := by decide +kernel
theorem dX0_goOn_12 : decode cX0_goOn 12 = .ok (.getfield 39, 3) := by decide +kernel
theorem dX0_goOn_15 : decode cX0_goOn 15 = .ok (.iconst 1, 1) := by decide +kernel
theorem dX0_goOn_16 : decode cX0_goOn 16 = .ok (.iadd, 1) := by decide +kernel
theorem dX0_goOn_17 : decode cX0_goOn 17 = .ok (.bipush 8, 2) := by decide +kernel
theorem dX0_goOn_19 : decode cX0_goOn 19 = .ok (.irem, 1) := by decide +kernel
theorem dX0_goOn_20 : decode cX0_goOn 20 = .ok (.putfield 39, 3) := by decide +kernel
theorem dX0_goOn_23 : decode cX0_goOn 23 = .ok (.aload_n 0, 1) := by decide +kernel
theorem dX0_goOn_24 : decode cX0_goOn 24 = .ok (.aload_n 0, 1) := by decide +kernel
theorem dX0_goOn_25 : decode cX0_goOn 25 = .ok (.getfield 30, 3) := by decide +kernel
theorem dX0_goOn_28 : decode cX0_goOn 28 = .ok (.iconst 1, 1) := by decide +kernel
theorem dX0_goOn_29 : decode cX0_goOn 29 = .ok (.iadd, 1) := by decide +kernel
theorem dX0_goOn_30 : decode cX0_goOn 30 = .ok (.bipush 8, 2) := by decide +kernel
theorem dX0_goOn_32 : decode cX0_goOn 32 = .ok (.invokestatic 56, 3) := by decide +kernel
theorem dX0_goOn_35 : decode cX0_goOn 35 = .ok (.putfield 30, 3) := by decide +kernel
theorem dX0_goOn_38 : decode cX0_goOn 38 = .ok (.return_, 1) := by decide +kernel
set_option maxRecDepth 20000 in
theorem ggX0_takeBack_X1_swapNames : GoodIn wsX0_takeBack wsX1_swapNames := goodIn_r _ [18, 19, 20, 21, 22, 23, 17, 24, 25, 26, 27, 28, 29, 30, 31, 32, 33, 41, 42, 43, 44] (by decide +kernel) (by decide +kernel)
set_option maxRecDepth 20000 in
theorem gX0_takeBack_X1_swapNames : GoodIn wsX0_takeBack (wsV RX0 62 RX1 yX1_swapNames wsX1_swapNames) := goodIn_app (goodIn_of _ (by decide +kernel)) ggX0_takeBack_X1_swapNames
theorem dX0_takeBack_0 : decode cX0_takeBack 0 = .ok (.aload_n 0, 1) := by decide +kernel
theorem dX0_takeBack_1 : decode cX0_takeBack 1 = .ok (.dup, 1) := by decide +kernel
theorem dX0_takeBack_2 : decode cX0_takeBack 2 = .ok (.getfield 30, 3) := by decide +kernel
theorem dX0_takeBack_5 : decode cX0_takeBack 5 = .ok (.iconst 1, 1) := by decide +kernel
theorem dX0_takeBack_6 : decode cX0_takeBack 6 = .ok (.isub, 1) := by decide +kernel
theorem dX0_takeBack_7 : decode cX0_takeBack 7 = .ok (.putfield 30, 3) := by decide +kernel
theorem dX0_takeBack_10 : decode cX0_takeBack 10 = .ok (.aload_n 0, 1) := by decide +kernel
theorem dX0_takeBack_11 : decode cX0_takeBack 11 = .ok (.aload_n 0, 1) := by decide +kernel
theorem dX0_takeBack_12 : decode cX0_takeBack 12 = .ok (.getfield 39, 3) := by decide +kernel
theorem dX0_takeBack_15 : decode cX0_takeBack 15 = .ok (.bipush 8, 2) := by decide +kernel
theorem dX0_takeBack_17 : decode cX0_takeBack 17 = .ok (.iadd, 1) := by decide +kernel
theorem dX0_takeBack_18 : decode cX0_takeBack 18 = .ok (.iconst 1, 1) := by decide +kernel
theorem dX0_takeBack_19 : decode cX0_takeBack 19 = .ok (.isub, 1) := by decide +kernel
theorem dX0_takeBack_20 : decode cX0_takeBack 20 = .ok (.bipush 8, 2) := by decide +kernel
theorem dX0_takeBack_22 : decode cX0_takeBack 22 = .ok (.irem, 1) := by decide +kernel
theorem dX0_takeBack_23 : decode cX0_takeBack 23 = .ok (.putfield 39, 3) := by decide +kernel
theorem dX0_takeBack_26 : decode cX0_takeBack 26 = .ok (.aload_n 0, 1) := by decide +kernel
theorem dX0_takeBack_27 : decode cX0_takeBack 27 = .ok (.getfield 11, 3) := by decide +kernel
theorem dX0_takeBack_30 : decode cX0_takeBack 30 = .ok (.aload_n 0, 1) := by decide +kernel
theorem dX0_takeBack_31 : decode cX0_takeBack 31 = .ok (.getfield 39, 3) := by decide +kernel
theorem dX0_takeBack_34 : decode cX0_takeBack 34 = .ok (.iaload, 1) := by decide +kernel
theorem dX0_takeBack_35 : decode cX0_takeBack 35 = .ok (.iconst 5, 1) := by decide +kernel
theorem dX0_takeBack_36 : decode cX0_takeBack 36 = .ok (.if_icmp .ne 26, 3) := by decide +kernel
theorem dX0_takeBack_39 : decode cX0_takeBack 39 = .ok (.aload_n 1, 1) := by decide +kernel
theorem dX0_takeBack_40 : decode cX0_takeBack 40 = .ok (.aload_n 0, 1) := by decide +kernel
theorem dX0_takeBack_41 : decode cX0_takeBack 41 = .ok (.getfield 24, 3) := by decide +kernel
theorem dX0_takeBack_44 : decode cX0_takeBack 44 = .ok (.aload_n 0, 1) := by decide +kernel
theorem dX0_takeBack_45 : decode cX0_takeBack 45 = .ok (.getfield 39, 3) := by decide +kernel
theorem dX0_takeBack_48 : decode cX0_takeBack 48 = .ok (.iaload, 1) := by decide +kernel
theorem dX0_takeBack_49 : decode cX0_takeBack 49 = .ok (.aload_n 0, 1) := by decide +kernel
theorem dX0_takeBack_50 : decode cX0_takeBack 50 = .ok (.getfield 27, 3) := by decide +kernel
theorem dX0_takeBack_53 : decode cX0_takeBack 53 = .ok (.aload_n 0, 1) := by decide +kernel
theorem dX0_takeBack_54 : decode cX0_takeBack 54 = .ok (.getfield 39, 3) := by decide +kernel
theorem dX0_takeBack_57 : decode cX0_takeBack 57 = .ok (.iaload, 1) := by decide +kernel
theorem dX0_takeBack_58 : decode cX0_takeBack 58 = .ok (.invokevirtual 62, 3) := by decide +kernel
theorem dX0_takeBack_61 : decode cX0_takeBack 61 = .ok (.return_, 1) := by decide +kernel
theorem dX0_takeBack_62 : decode cX0_takeBack 62 = .ok (.aload_n 0, 1) := by decide +kernel
theorem dX0_takeBack_63 : decode cX0_takeBack 63 = .ok (.getfield 17, 3) := by decide +kernel
theorem dX0_takeBack_66 : decode cX0_takeBack 66 = .ok (.aload_n 0, 1) := by decide +kernel
theorem dX0_takeBack_67 : decode cX0_takeBack 67 = .ok (.getfield 39, 3) := by decide +kernel
theorem dX0_takeBack_70 : decode cX0_takeBack 70 = .ok (.aaload, 1) := by decide +kernel
theorem dX0_takeBack_71 : decode cX0_takeBack 71 = .ok (.iconst 0, 1) := by decide +kernel
theorem dX0_takeBack_72 : decode cX0_takeBack 72 = .ok (.aload_n 1, 1) := by decide +kernel
theorem dX0_takeBack_73 : decode cX0_takeBack 73 = .ok (.getfield 34, 3) := by decide +kernel
theorem dX0_takeBack_76 : decode cX0_takeBack 76 = .ok (.aload_n 0, 1) := by decide +kernel
theorem dX0_takeBack_77 : decode cX0_takeBack 77 = .ok (.getfield 11, 3) := by decide +kernel
theorem dX0_takeBack_80 : decode cX0_takeBack 80 = .ok (.aload_n 0, 1) := by decide +kernel
theorem dX0_takeBack_81 : decode cX0_takeBack 81 = .ok (.getfield 39, 3) := by decide +kernel
theorem dX0_takeBack_84 : decode cX0_takeBack 84 = .ok (.iaload, 1) := by decide +kernel
theorem dX0_takeBack_85 : decode cX0_takeBack 85 = .ok (.aaload, 1) := by decide +kernel
theorem dX0_takeBack_86 : decode cX0_takeBack 86 = .ok (.iconst 0, 1) := by decide +kernel
theorem dX0_takeBack_87 : decode cX0_takeBack 87 = .ok (.sipush 256, 3) := by decide +kernel
theorem dX0_takeBack_90 : decode cX0_takeBack 90 = .ok (.invokestatic 42, 3) := by decide +kernel
theorem dX0_takeBack_93 : decode cX0_takeBack 93 = .ok (.aload_n 1, 1) := by decide +kernel
theorem dX0_takeBack_94 : decode cX0_takeBack 94 = .ok (.aload_n 0, 1) := by decide +kernel
theorem dX0_takeBack_95 : decode cX0_takeBack 95 = .ok (.getfield 20, 3) := by decide +kernel
theorem dX0_takeBack_98 : decode cX0_takeBack 98 = .ok (.aload_n 0, 1) := by decide +kernel
theorem dX0_takeBack_99 : decode cX0_takeBack 99 = .ok (.getfield 39, 3) := by decide +kernel
theorem dX0_takeBack_102 : decode cX0_takeBack 102 = .ok (.laload, 1) := by decide +kernel
theorem dX0_takeBack_103 : decode cX0_takeBack 103 = .ok (.putfield 48, 3) := by decide +kernel
theorem dX0_takeBack_106 : decode cX0_takeBack 106 = .ok (.return_, 1) := by decide +kernel
theorem dX1_init_0 : decode cX1_init 0 = .ok (.aload_n 0, 1) := by decide +kernel
theorem dX1_init_1 : decode cX1_init 1 = .ok (.invokespecial 3, 3) := by decide +kernel
theorem dX1_init_4 : decode cX1_init 4 = .ok (.aload_n 0, 1) := by decide +kernel
theorem dX1_init_5 : decode cX1_init 5 = .ok (.iconst 5, 1) := by decide +kernel
theorem dX1_init_6 : decode cX1_init 6 = .ok (.sipush 256, 3) := by decide +kernel
theorem dX1_init_9 : decode cX1_init 9 = .ok (.multianewarray 9 2, 4) := by decide +kernel
theorem dX1_init_13 : decode cX1_init 13 = .ok (.putfield 11, 3) := by decide +kernel
theorem dX1_init_16 : decode cX1_init 16 = .ok (.return_, 1) := by decide +kernel
theorem dX1_begin_0 : decode cX1_begin 0 = .ok (.aload_n 0, 1) := by decide +kernel
theorem dX1_begin_1 : decode cX1_begin 1 = .ok (.iload_n 1, 1) := by decide +kernel
theorem dX1_begin_2 : decode cX1_begin 2 = .ok (.putfield 16, 3) := by decide +kernel
theorem dX1_begin_5 : decode cX1_begin 5 = .ok (.aload_n 0, 1) := by decide +kernel
theorem dX1_begin_6 : decode cX1_begin 6 = .ok (.lload_n 2, 1) := by decide +kernel
theorem dX1_begin_7 : decode cX1_begin 7 = .ok (.putfield 20, 3) := by decide +kernel
theorem dX1_begin_10 : decode cX1_begin 10 = .ok (.iconst 0, 1) := by decide +kernel
theorem dX1_begin_11 : decode cX1_begin 11 = .ok (.istore 5, 2) := by decide +kernel
theorem dX1_begin_13 : decode cX1_begin 13 = .ok (.iload 5, 2) := by decide +kernel
theorem dX1_begin_15 : decode cX1_begin 15 = .ok (.iconst 4, 1) := by decide +kernel
theorem dX1_begin_16 : decode cX1_begin 16 = .ok (.if_icmp .ge 37, 3) := by decide +kernel
theorem dX1_begin_19 : decode cX1_begin 19 = .ok (.iconst 0, 1) := by decide +kernel
theorem dX1_begin_20 : decode cX1_begin 20 = .ok (.istore 6, 2) := by decide +kernel
theorem dX1_begin_22 : decode cX1_begin 22 = .ok (.iload 6, 2) := by decide +kernel
theorem dX1_begin_24 : decode cX1_begin 24 = .ok (.sipush 256, 3) := by decide +kernel
theorem dX1_begin_27 : decode cX1_begin 27 = .ok (.if_icmp .ge 20, 3) := by decide +kernel
theorem dX1_begin_30 : decode cX1_begin 30 = .ok (.aload_n 0, 1) := by decide +kernel
theorem dX1_begin_31 : decode cX1_begin 31 = .ok (.getfield 11, 3) := by decide +kernel
theorem dX1_begin_34 : decode cX1_begin 34 = .ok (.iload 5, 2) := by decide +kernel
theorem dX1_begin_36 : decode cX1_begin 36 = .ok (.aaload, 1) := by decide +kernel
theorem dX1_begin_37 : decode cX1_begin 37 = .ok (.iload 6, 2) := by decide +kernel
theorem dX1_begin_39 : decode cX1_begin 39 = .ok (.iconst 0, 1) := by decide +kernel
theorem dX1_begin_40 : decode cX1_begin 40 = .ok (.iastore, 1) := by decide +kernel
theorem dX1_begin_41 : decode cX1_begin 41 = .ok (.iinc 6 1, 3) := by decide +kernel
theorem dX1_begin_44 : decode cX1_begin 44 = .ok (.goto (-22), 3) := by decide +kernel
theorem dX1_begin_47 : decode cX1_begin 47 = .ok (.iinc 5 1, 3) := by decide +kernel
theorem dX1_begin_50 : decode cX1_begin 50 = .ok (.goto (-37), 3) := by decide +kernel
theorem dX1_begin_53 : decode cX1_begin 53 = .ok (.aload 4, 2) := by decide +kernel
theorem dX1_begin_55 : decode cX1_begin 55 = .ok (.iconst 0, 1) := by decide +kernel
theorem dX1_begin_56 : decode cX1_begin 56 = .ok (.aload_n 0, 1) := by decide +kernel
theorem dX1_begin_57 : decode cX1_begin 57 = .ok (.getfield 11, 3) := by decide +kernel
theorem dX1_begin_60 : decode cX1_begin 60 = .ok (.iconst 4, 1) := by decide +kernel
theorem dX1_begin_61 : decode cX1_begin 61 = .ok (.aaload, 1) := by decide +kernel
theorem dX1_begin_62 : decode cX1_begin 62 = .ok (.iconst 0, 1) := by decide +kernel
theorem dX1_begin_63 : decode cX1_begin 63 = .ok (.sipush 256, 3) := by decide +kernel
theorem dX1_begin_66 : decode cX1_begin 66 = .ok (.invokestatic 24, 3) := by decide +kernel
theorem dX1_begin_69 : decode cX1_begin 69 = .ok (.return_, 1) := by decide +kernel
theorem dX1_copyFrom_0 : decode cX1_copyFrom 0 = .ok (.aload_n 0, 1) := by decide +kernel
theorem dX1_copyFrom_1 : decode cX1_copyFrom 1 = .ok (.aload_n 1, 1) := by decide +kernel
theorem dX1_copyFrom_2 : decode cX1_copyFrom 2 = .ok (.getfield 16, 3) := by decide +kernel
theorem dX1_copyFrom_5 : decode cX1_copyFrom 5 = .ok (.putfield 16, 3) := by decide +kernel
theorem dX1_copyFrom_8 : decode cX1_copyFrom 8 = .ok (.aload_n 0, 1) := by decide +kernel
theorem dX1_copyFrom_9 : decode cX1_copyFrom 9 = .ok (.aload_n 1, 1) := by decide +kernel
theorem dX1_copyFrom_10 : decode cX1_copyFrom 10 = .ok (.getfield 20, 3) := by decide +kernel
theorem dX1_copyFrom_13 : decode cX1_copyFrom 13 = .ok (.putfield 20, 3) := by decide +kernel
theorem dX1_copyFrom_16 : decode cX1_copyFrom 16 = .ok (.iconst 0, 1) := by decide +kernel
theorem dX1_copyFrom_17 : decode cX1_copyFrom 17 = .ok (.istore_n 2, 1) := by decide +kernel
theorem dX1_copyFrom_18 : decode cX1_copyFrom 18 = .ok (.iload_n 2, 1) := by decide +kernel
theorem dX1_copyFrom_19 : decode cX1_copyFrom 19 = .ok (.iconst 5, 1) := by decide +kernel
theorem dX1_copyFrom_20 : decode cX1_copyFrom 20 = .ok (.if_icmp .ge 29, 3) := by decide +kernel
theorem dX1_copyFrom_23 : decode cX1_copyFrom 23 = .ok (.aload_n 1, 1) := by decide +kernel
theorem dX1_copyFrom_24 : decode cX1_copyFrom 24 = .ok (.getfield 11, 3) := by decide +kernel
theorem dX1_copyFrom_27 : decode cX1_copyFrom 27 = .ok (.iload_n 2, 1) := by decide +kernel
theorem dX1_copyFrom_28 : decode cX1_copyFrom 28 = .ok (.aaload, 1) := by decide +kernel
theorem dX1_copyFrom_29 : decode cX1_copyFrom 29 = .ok (.iconst 0, 1) := by decide +kernel
theorem dX1_copyFrom_30 : decode cX1_copyFrom 30 = .ok (.aload_n 0, 1) := by decide +kernel
theorem dX1_copyFrom_31 : decode cX1_copyFrom 31 = .ok (.getfield 11, 3) := by decide +kernel
theorem dX1_copyFrom_34 : decode cX1_copyFrom 34 = .ok (.iload_n 2, 1) := by decide +kernel
theorem dX1_copyFrom_35 : decode cX1_copyFrom 35 = .ok (.aaload, 1) := by decide +kernel
theorem dX1_copyFrom_36 : decode cX1_copyFrom 36 = .ok (.iconst 0, 1) := by decide +kernel
theorem dX1_copyFrom_37 : decode cX1_copyFrom 37 = .ok (.sipush 256, 3) := by decide +kernel
theorem dX1_copyFrom_40 : decode cX1_copyFrom 40 = .ok (.invokestatic 24, 3) := by decide +kernel
theorem dX1_copyFrom_43 : decode cX1_copyFrom 43 = .ok (.iinc 2 1, 3) := by decide +kernel
theorem dX1_copyFrom_46 : decode cX1_copyFrom 46 = .ok (.goto (-28), 3) := by decide +kernel
theorem dX1_copyFrom_49 : decode cX1_copyFrom 49 = .ok (.return_, 1) := by decide +kernel
theorem dX1_countSets_0 : decode cX1_countSets 0 = .ok (.aload_n 0, 1) := by decide +kernel
theorem dX1_countSets_1 : decode cX1_countSets 1 = .ok (.getfield 16, 3) := by decide +kernel
theorem dX1_countSets_4 : decode cX1_countSets 4 = .ok (.ifCond .ne 7, 3) := by decide +kernel
theorem dX1_countSets_7 : decode cX1_countSets 7 = .ok (.iconst 0, 1) := by decide +kernel
theorem dX1_countSets_8 : decode cX1_countSets 8 = .ok (.goto 9, 3) := by decide +kernel
theorem dX1_countSets_11 : decode cX1_countSets 11 = .ok (.iconst 1, 1) := by decide +kernel
theorem dX1_countSets_12 : decode cX1_countSets 12 = .ok (.aload_n 0, 1) := by decide +kernel
theorem dX1_countSets_13 : decode cX1_countSets 13 = .ok (.getfield 16, 3) := by decide +kernel
theorem dX1_countSets_16 : decode cX1_countSets 16 = .ok (.ishl, 1) := by decide +kernel
theorem dX1_countSets_17 : decode cX1_countSets 17 = .ok (.ireturn, 1) := by decide +kernel
theorem dX1_allThings_0 : decode cX1_allThings 0 = .ok (.iconst 1, 1) := by decide +kernel
theorem dX1_allThings_1 : decode cX1_allThings 1 = .ok (.aload_n 0, 1) := by decide +kernel
theorem dX1_allThings_2 : decode cX1_allThings 2 = .ok (.getfield 16, 3) := by decide +kernel
theorem dX1_allThings_5 : decode cX1_allThings 5 = .ok (.ishl, 1) := by decide +kernel
theorem dX1_allThings_6 : decode cX1_allThings 6 = .ok (.iconst 1, 1) := by decide +kernel
theorem dX1_allThings_7 : decode cX1_allThings 7 = .ok (.isub, 1) := by decide +kernel
theorem dX1_allThings_8 : decode cX1_allThings 8 = .ok (.ireturn, 1) := by decide +kernel
theorem dX1_hasThing_0 : decode cX1_hasThing 0 = .ok (.iload_n 1, 1) := by decide +kernel
theorem dX1_hasThing_1 : decode cX1_hasThing 1 = .ok (.ifCond .lt 15, 3) := by decide +kernel
theorem dX1_hasThing_4 : decode cX1_hasThing 4 = .ok (.iload_n 1, 1) := by decide +kernel
theorem dX1_hasThing_5 : decode cX1_hasThing 5 = .ok (.aload_n 0, 1) := by decide +kernel
theorem dX1_hasThing_6 : decode cX1_hasThing 6 = .ok (.getfield 16, 3) := by decide +kernel
theorem dX1_hasThing_9 : decode cX1_hasThing 9 = .ok (.if_icmp .ge 7, 3) := by decide +kernel
theorem dX1_hasThing_12 : decode cX1_hasThing 12 = .ok (.iconst 1, 1) := by decide +kernel
theorem dX1_hasThing_13 : decode cX1_hasThing 13 = .ok (.goto 4, 3) := by decide +kernel
theorem dX1_hasThing_16 : decode cX1_hasThing 16 = .ok (.iconst 0, 1) := by decide +kernel
theorem dX1_hasThing_17 : decode cX1_hasThing 17 = .ok (.ireturn, 1) := by decide +kernel
set_option maxRecDepth 20000 in
theorem ggX1_hasSet_X1_countSets : GoodIn wsX1_hasSet wsX1_countSets := goodIn_r _ [5, 6, 7, 8, 9, 10] (by decide +kernel) (by decide +kernel)
set_option maxRecDepth 20000 in
theorem gX1_hasSet_X1_countSets : GoodIn wsX1_hasSet (wsV RX1 30 RX1 yX1_countSets wsX1_countSets) := goodIn_app (goodIn_of _ (by decide +kernel)) ggX1_hasSet_X1_countSets
theorem dX1_hasSet_0 : decode cX1_hasSet 0 = .ok (.iload_n 1, 1) := by decide +kernel
theorem dX1_hasSet_1 : decode cX1_hasSet 1 = .ok (.ifCond .lt 15, 3) := by decide +kernel
theorem dX1_hasSet_4 : decode cX1_hasSet 4 = .ok (.iload_n 1, 1) := by decide +kernel
theorem dX1_hasSet_5 : decode cX1_hasSet 5 = .ok (.aload_n 0, 1) := by decide +kernel
theorem dX1_hasSet_6 : decode cX1_hasSet 6 = .ok (.invokevirtual 30, 3) := by decide +kernel
theorem dX1_hasSet_9 : decode cX1_hasSet 9 = .ok (.if_icmp .ge 7, 3) := by decide +kernel
theorem dX1_hasSet_12 : decode cX1_hasSet 12 = .ok (.iconst 1, 1) := by decide +kernel
theorem dX1_hasSet_13 : decode cX1_hasSet 13 = .ok (.goto 4, 3) := by decide +kernel
theorem dX1_hasSet_16 : decode cX1_hasSet 16 = .ok (.iconst 0, 1) := by decide +kernel
theorem dX1_hasSet_17 : decode cX1_hasSet 17 = .ok (.ireturn, 1) := by decide +kernel
theorem dX1_hasRow_0 : decode cX1_hasRow 0 = .ok (.iload_n 1, 1) := by decide +kernel
theorem dX1_hasRow_1 : decode cX1_hasRow 1 = .ok (.ifCond .lt 19, 3) := by decide +kernel
theorem dX1_hasRow_4 : decode cX1_hasRow 4 = .ok (.iload_n 1, 1) := by decide +kernel
theorem dX1_hasRow_5 : decode cX1_hasRow 5 = .ok (.iconst 4, 1) := by decide +kernel
theorem dX1_hasRow_6 : decode cX1_hasRow 6 = .ok (.if_icmp .ge 14, 3) := by decide +kernel
theorem dX1_hasRow_9 : decode cX1_hasRow 9 = .ok (.aload_n 0, 1) := by decide +kernel
theorem dX1_hasRow_10 : decode cX1_hasRow 10 = .ok (.getfield 16, 3) := by decide +kernel
theorem dX1_hasRow_13 : decode cX1_hasRow 13 = .ok (.ifCond .le 7, 3) := by decide +kernel
theorem dX1_hasRow_16 : decode cX1_hasRow 16 = .ok (.iconst 1, 1) := by decide +kernel
theorem dX1_hasRow_17 : decode cX1_hasRow 17 = .ok (.goto 4, 3) := by decide +kernel
theorem dX1_hasRow_20 : decode cX1_hasRow 20 = .ok (.iconst 0, 1) := by decide +kernel
theorem dX1_hasRow_21 : decode cX1_hasRow 21 = .ok (.ireturn, 1) := by decide +kernel
theorem dX1_mates_0 : decode cX1_mates 0 = .ok (.aload_n 0, 1) := by decide +kernel
theorem dX1_mates_1 : decode cX1_mates 1 = .ok (.getfield 20, 3) := by decide +kernel
theorem dX1_mates_4 : decode cX1_mates 4 = .ok (.iload_n 1, 1) := by decide +kernel
theorem dX1_mates_5 : decode cX1_mates 5 = .ok (.bipush 8, 2) := by decide +kernel
theorem dX1_mates_7 : decode cX1_mates 7 = .ok (.imul, 1) := by decide +kernel
theorem dX1_mates_8 : decode cX1_mates 8 = .ok (.lushr, 1) := by decide +kernel
theorem dX1_mates_9 : decode cX1_mates 9 = .ok (.l2i, 1) := by decide +kernel
theorem dX1_mates_10 : decode cX1_mates 10 = .ok (.sipush 255, 3) := by decide +kernel
theorem dX1_mates_13 : decode cX1_mates 13 = .ok (.iand, 1) := by decide +kernel
theorem dX1_mates_14 : decode cX1_mates 14 = .ok (.ireturn, 1) := by decide +kernel
set_option maxRecDepth 20000 in
theorem ggX1_areMates_X1_mates : GoodIn wsX1_areMates wsX1_mates := goodIn_r _ [5, 6, 7, 8, 9, 10] (by decide +kernel) (by decide +kernel)
set_option maxRecDepth 20000 in
theorem gX1_areMates_X1_mates : GoodIn wsX1_areMates (wsV RX1 34 RX1 yX1_mates wsX1_mates) := goodIn_app (goodIn_of _ (by decide +kernel)) ggX1_areMates_X1_mates
theorem dX1_areMates_0 : decode cX1_areMates 0 = .ok (.aload_n 0, 1) := by decide +kernel
theorem dX1_areMates_1 : decode cX1_areMates 1 = .ok (.iload_n 1, 1) := by decide +kernel
theorem dX1_areMates_2 : decode cX1_areMates 2 = .ok (.invokevirtual 34, 3) := by decide +kernel
theorem dX1_areMates_5 : decode cX1_areMates 5 = .ok (.iload_n 2, 1) := by decide +kernel
theorem dX1_areMates_6 : decode cX1_areMates 6 = .ok (.ishr, 1) := by decide +kernel
theorem dX1_areMates_7 : decode cX1_areMates 7 = .ok (.iconst 1, 1) := by decide +kernel
theorem dX1_areMates_8 : decode cX1_areMates 8 = .ok (.iand, 1) := by decide +kernel
theorem dX1_areMates_9 : decode cX1_areMates 9 = .ok (.iconst 1, 1) := by decide +kernel
theorem dX1_areMates_10 : decode cX1_areMates 10 = .ok (.if_icmp .ne 7, 3) := by decide +kernel
theorem dX1_areMates_13 : decode cX1_areMates 13 = .ok (.iconst 1, 1) := by decide +kernel
theorem dX1_areMates_14 : decode cX1_areMates 14 = .ok (.goto 4, 3) := by decide +kernel
theorem dX1_areMates_17 : decode cX1_areMates 17 = .ok (.iconst 0, 1) := by decide +kernel
theorem dX1_areMates_18 : decode cX1_areMates 18 = .ok (.ireturn, 1) := by decide +kernel
theorem dX1_turnPair_0 : decode cX1_turnPair 0 = .ok (.aload_n 0, 1) := by decide +kernel
theorem dX1_turnPair_1 : decode cX1_turnPair 1 = .ok (.dup, 1) := by decide +kernel
theorem dX1_turnPair_2 : decode cX1_turnPair 2 = .ok (.getfield 20, 3) := by decide +kernel
theorem dX1_turnPair_5 : decode cX1_turnPair 5 = .ok (.lconst 1, 1) := by decide +kernel
theorem dX1_turnPair_6 : decode cX1_turnPair 6 = .ok (.iload_n 1, 1) := by decide +kernel
theorem dX1_turnPair_7 : decode cX1_turnPair 7 = .ok (.bipush 8, 2) := by decide +kernel
theorem dX1_turnPair_9 : decode cX1_turnPair 9 = .ok (.imul, 1) := by decide +kernel
theorem dX1_turnPair_10 : decode cX1_turnPair 10 = .ok (.iload_n 2, 1) := by decide +kernel
theorem dX1_turnPair_11 : decode cX1_turnPair 11 = .ok (.iadd, 1) := by decide +kernel
theorem dX1_turnPair_12 : decode cX1_turnPair 12 = .ok (.lshl, 1) := by decide +kernel
theorem dX1_turnPair_13 : decode cX1_turnPair 13 = .ok (.lconst 1, 1) := by decide +kernel
theorem dX1_turnPair_14 : decode cX1_turnPair 14 = .ok (.iload_n 2, 1) := by decide +kernel
theorem dX1_turnPair_15 : decode cX1_turnPair 15 = .ok (.bipush 8, 2) := by decide +kernel
theorem dX1_turnPair_17 : decode cX1_turnPair 17 = .ok (.imul, 1) := by decide +kernel
theorem dX1_turnPair_18 : decode cX1_turnPair 18 = .ok (.iload_n 1, 1) := by decide +kernel
theorem dX1_turnPair_19 : decode cX1_turnPair 19 = .ok (.iadd, 1) := by decide +kernel
theorem dX1_turnPair_20 : decode cX1_turnPair 20 = .ok (.lshl, 1) := by decide +kernel
theorem dX1_turnPair_21 : decode cX1_turnPair 21 = .ok (.lor, 1) := by decide +kernel
theorem dX1_turnPair_22 : decode cX1_turnPair 22 = .ok (.lxor, 1) := by decide +kernel
theorem dX1_turnPair_23 : decode cX1_turnPair 23 = .ok (.putfield 20, 3) := by decide +kernel
theorem dX1_turnPair_26 : decode cX1_turnPair 26 = .ok (.return_, 1) := by decide +kernel
set_option maxRecDepth 20000 in
theorem ggX1_countPairs_J13_bitCount_95d88 : GoodIn wsX1_countPairs wsJ13_bitCount_95d88 := goodIn_r _ [5, 6, 7, 8] (by decide +kernel) (by decide +kernel)
set_option maxRecDepth 20000 in
theorem gX1_countPairs_J13_bitCount_95d88 : GoodIn wsX1_countPairs (va_wsS RX1 38 yJ13_bitCount_95d88 wsJ13_bitCount_95d88) := goodIn_app (goodIn_of _ (by decide +kernel)) ggX1_countPairs_J13_bitCount_95d88
theorem dX1_countPairs_0 : decode cX1_countPairs 0 = .ok (.aload_n 0, 1) := by decide +kernel
theorem dX1_countPairs_1 : decode cX1_countPairs 1 = .ok (.getfield 20, 3) := by decide +kernel
theorem dX1_countPairs_4 : decode cX1_countPairs 4 = .ok (.invokestatic 38, 3) := by decide +kernel
theorem dX1_countPairs_7 : decode cX1_countPairs 7 = .ok (.iconst 1, 1) := by decide +kernel
theorem dX1_countPairs_8 : decode cX1_countPairs 8 = .ok (.ishr, 1) := by decide +kernel
theorem dX1_countPairs_9 : decode cX1_countPairs 9 = .ok (.ireturn, 1) := by decide +kernel
theorem dX1_countTold_0 : decode cX1_countTold 0 = .ok (.iconst 0, 1) := by decide +kernel
theorem dX1_countTold_1 : decode cX1_countTold 1 = .ok (.istore_n 1, 1) := by decide +kernel
theorem dX1_countTold_2 : decode cX1_countTold 2 = .ok (.iconst 0, 1) := by decide +kernel
theorem dX1_countTold_3 : decode cX1_countTold 3 = .ok (.istore_n 2, 1) := by decide +kernel
theorem dX1_countTold_4 : decode cX1_countTold 4 = .ok (.iload_n 2, 1) := by decide +kernel
theorem dX1_countTold_5 : decode cX1_countTold 5 = .ok (.sipush 256, 3) := by decide +kernel
theorem dX1_countTold_8 : decode cX1_countTold 8 = .ok (.if_icmp .ge 28, 3) := by decide +kernel
theorem dX1_countTold_11 : decode cX1_countTold 11 = .ok (.iload_n 1, 1) := by decide +kernel
theorem dX1_countTold_12 : decode cX1_countTold 12 = .ok (.aload_n 0, 1) := by decide +kernel
theorem dX1_countTold_13 : decode cX1_countTold 13 = .ok (.getfield 11, 3) := by decide +kernel
theorem dX1_countTold_16 : decode cX1_countTold 16 = .ok (.iconst 4, 1) := by decide +kernel
theorem dX1_countTold_17 : decode cX1_countTold 17 = .ok (.aaload, 1) := by decide +kernel
theorem dX1_countTold_18 : decode cX1_countTold 18 = .ok (.iload_n 2, 1) := by decide +kernel
theorem dX1_countTold_19 : decode cX1_countTold 19 = .ok (.iaload, 1) := by decide +kernel
theorem dX1_countTold_20 : decode cX1_countTold 20 = .ok (.ifCond .le 7, 3) := by decide +kernel
theorem dX1_countTold_23 : decode cX1_countTold 23 = .ok (.iconst 1, 1) := by decide +kernel
theorem dX1_countTold_24 : decode cX1_countTold 24 = .ok (.goto 4, 3) := by decide +kernel
theorem dX1_countTold_27 : decode cX1_countTold 27 = .ok (.iconst 0, 1) := by decide +kernel
theorem dX1_countTold_28 : decode cX1_countTold 28 = .ok (.iadd, 1) := by decide +kernel
theorem dX1_countTold_29 : decode cX1_countTold 29 = .ok (.istore_n 1, 1) := by decide +kernel
theorem dX1_countTold_30 : decode cX1_countTold 30 = .ok (.iinc 2 1, 3) := by decide +kernel
theorem dX1_countTold_33 : decode cX1_countTold 33 = .ok (.goto (-29), 3) := by decide +kernel
theorem dX1_countTold_36 : decode cX1_countTold 36 = .ok (.iload_n 1, 1) := by decide +kernel
theorem dX1_countTold_37 : decode cX1_countTold 37 = .ok (.ireturn, 1) := by decide +kernel
theorem dX1_countParted_0 : decode cX1_countParted 0 = .ok (.iconst 0, 1) := by decide +kernel
theorem dX1_countParted_1 : decode cX1_countParted 1 = .ok (.istore_n 3, 1) := by decide +kernel
theorem dX1_countParted_2 : decode cX1_countParted 2 = .ok (.iconst 0, 1) := by decide +kernel
theorem dX1_countParted_3 : decode cX1_countParted 3 = .ok (.istore 4, 2) := by decide +kernel
theorem dX1_countParted_5 : decode cX1_countParted 5 = .ok (.iload 4, 2) := by decide +kernel
theorem dX1_countParted_7 : decode cX1_countParted 7 = .ok (.sipush 256, 3) := by decide +kernel
theorem dX1_countParted_10 : decode cX1_countParted 10 = .ok (.if_icmp .ge 56, 3) := by decide +kernel
theorem dX1_countParted_13 : decode cX1_countParted 13 = .ok (.iload 4, 2) := by decide +kernel
theorem dX1_countParted_15 : decode cX1_countParted 15 = .ok (.iload_n 1, 1) := by decide +kernel
theorem dX1_countParted_16 : decode cX1_countParted 16 = .ok (.ishr, 1) := by decide +kernel
theorem dX1_countParted_17 : decode cX1_countParted 17 = .ok (.iconst 1, 1) := by decide +kernel
theorem dX1_countParted_18 : decode cX1_countParted 18 = .ok (.iand, 1) := by decide +kernel
theorem dX1_countParted_19 : decode cX1_countParted 19 = .ok (.iload 4, 2) := by decide +kernel
theorem dX1_countParted_21 : decode cX1_countParted 21 = .ok (.iload_n 2, 1) := by decide +kernel
theorem dX1_countParted_22 : decode cX1_countParted 22 = .ok (.ishr, 1) := by decide +kernel
theorem dX1_countParted_23 : decode cX1_countParted 23 = .ok (.iconst 1, 1) := by decide +kernel
theorem dX1_countParted_24 : decode cX1_countParted 24 = .ok (.iand, 1) := by decide +kernel
theorem dX1_countParted_25 : decode cX1_countParted 25 = .ok (.if_icmp .eq 7, 3) := by decide +kernel
theorem dX1_countParted_28 : decode cX1_countParted 28 = .ok (.iconst 1, 1) := by decide +kernel
theorem dX1_countParted_29 : decode cX1_countParted 29 = .ok (.goto 4, 3) := by decide +kernel
theorem dX1_countParted_32 : decode cX1_countParted 32 = .ok (.iconst 0, 1) := by decide +kernel
theorem dX1_countParted_33 : decode cX1_countParted 33 = .ok (.istore 5, 2) := by decide +kernel
theorem dX1_countParted_35 : decode cX1_countParted 35 = .ok (.iload_n 3, 1) := by decide +kernel
theorem dX1_countParted_36 : decode cX1_countParted 36 = .ok (.iload 5, 2) := by decide +kernel
theorem dX1_countParted_38 : decode cX1_countParted 38 = .ok (.ifCond .eq 19, 3) := by decide +kernel
theorem dX1_countParted_41 : decode cX1_countParted 41 = .ok (.aload_n 0, 1) := by decide +kernel
theorem dX1_countParted_42 : decode cX1_countParted 42 = .ok (.getfield 11, 3) := by decide +kernel
theorem dX1_countParted_45 : decode cX1_countParted 45 = .ok (.iconst 4, 1) := by decide +kernel
theorem dX1_countParted_46 : decode cX1_countParted 46 = .ok (.aaload, 1) := by decide +kernel
theorem dX1_countParted_47 : decode cX1_countParted 47 = .ok (.iload 4, 2) := by decide +kernel
theorem dX1_countParted_49 : decode cX1_countParted 49 = .ok (.iaload, 1) := by decide +kernel
theorem dX1_countParted_50 : decode cX1_countParted 50 = .ok (.ifCond .le 7, 3) := by decide +kernel
theorem dX1_countParted_53 : decode cX1_countParted 53 = .ok (.iconst 1, 1) := by decide +kernel
theorem dX1_countParted_54 : decode cX1_countParted 54 = .ok (.goto 4, 3) := by decide +kernel
theorem dX1_countParted_57 : decode cX1_countParted 57 = .ok (.iconst 0, 1) := by decide +kernel
theorem dX1_countParted_58 : decode cX1_countParted 58 = .ok (.iadd, 1) := by decide +kernel
theorem dX1_countParted_59 : decode cX1_countParted 59 = .ok (.istore_n 3, 1) := by decide +kernel
theorem dX1_countParted_60 : decode cX1_countParted 60 = .ok (.iinc 4 1, 3) := by decide +kernel
theorem dX1_countParted_63 : decode cX1_countParted 63 = .ok (.goto (-58), 3) := by decide +kernel
theorem dX1_countParted_66 : decode cX1_countParted 66 = .ok (.iload_n 3, 1) := by decide +kernel
theorem dX1_countParted_67 : decode cX1_countParted 67 = .ok (.ireturn, 1) := by decide +kernel
set_option maxRecDepth 20000 in
theorem ggX1_swapNames_X1_areMates : GoodIn wsX1_swapNames wsX1_areMates := goodIn_r _ [7, 8, 9, 10, 6, 11, 12, 17, 18, 19, 20] (by decide +kernel) (by decide +kernel)
set_option maxRecDepth 20000 in
theorem gX1_swapNames_X1_areMates : GoodIn wsX1_swapNames (wsV RX1 44 RX1 yX1_areMates wsX1_areMates) := goodIn_app (goodIn_of _ (by decide +kernel)) ggX1_swapNames_X1_areMates
set_option maxRecDepth 20000 in
theorem ggX1_swapNames_X1_turnPair : GoodIn wsX1_swapNames wsX1_turnPair := goodIn_r _ [16, 12, 17, 18, 19, 20] (by decide +kernel) (by decide +kernel)
set_option maxRecDepth 20000 in
theorem gX1_swapNames_X1_turnPair : GoodIn wsX1_swapNames (wsV RX1 48 RX1 yX1_turnPair wsX1_turnPair) := goodIn_app (goodIn_of _ (by decide +kernel)) ggX1_swapNames_X1_turnPair
theorem dX1_swapNames_0 : decode cX1_swapNames 0 = .ok (.iconst 1, 1) := by decide +kernel
theorem dX1_swapNames_1 : decode cX1_swapNames 1 = .ok (.iload_n 1, 1) := by decide +kernel
theorem dX1_swapNames_2 : decode cX1_swapNames 2 = .ok (.ishl, 1) := by decide +kernel
theorem dX1_swapNames_3 : decode cX1_swapNames 3 = .ok (.iconst 1, 1) := by decide +kernel
theorem dX1_swapNames_4 : decode cX1_swapNames 4 = .ok (.iload_n 2, 1) := by decide +kernel
theorem dX1_swapNames_5 : decode cX1_swapNames 5 = .ok (.ishl, 1) := by decide +kernel
theorem dX1_swapNames_6 : decode cX1_swapNames 6 = .ok (.ior, 1) := by decide +kernel
theorem dX1_swapNames_7 : decode cX1_swapNames 7 = .ok (.istore_n 3, 1) := by decide +kernel
theorem dX1_swapNames_8 : decode cX1_swapNames 8 = .ok (.iconst 0, 1) := by decide +kernel
theorem dX1_swapNames_9 : decode cX1_swapNames 9 = .ok (.istore 4, 2) := by decide +kernel
theorem dX1_swapNames_11 : decode cX1_swapNames 11 = .ok (.iload 4, 2) := by decide +kernel
theorem dX1_swapNames_13 : decode cX1_swapNames 13 = .ok (.iconst 5, 1) := by decide +kernel
theorem dX1_swapNames_14 : decode cX1_swapNames 14 = .ok (.if_icmp .ge 84, 3) := by decide +kernel
theorem dX1_swapNames_17 : decode cX1_swapNames 17 = .ok (.iconst 0, 1) := by decide +kernel
theorem dX1_swapNames_18 : decode cX1_swapNames 18 = .ok (.istore 5, 2) := by decide +kernel
theorem dX1_swapNames_20 : decode cX1_swapNames 20 = .ok (.iload 5, 2) := by decide +kernel
theorem dX1_swapNames_22 : decode cX1_swapNames 22 = .ok (.sipush 256, 3) := by decide +kernel
theorem dX1_swapNames_25 : decode cX1_swapNames 25 = .ok (.if_icmp .ge 67, 3) := by decide +kernel
theorem dX1_swapNames_28 : decode cX1_swapNames 28 = .ok (.iload 5, 2) := by decide +kernel
theorem dX1_swapNames_30 : decode cX1_swapNames 30 = .ok (.iload_n 3, 1) := by decide +kernel
theorem dX1_swapNames_31 : decode cX1_swapNames 31 = .ok (.iand, 1) := by decide +kernel
theorem dX1_swapNames_32 : decode cX1_swapNames 32 = .ok (.iconst 1, 1) := by decide +kernel
theorem dX1_swapNames_33 : decode cX1_swapNames 33 = .ok (.iload_n 1, 1) := by decide +kernel
theorem dX1_swapNames_34 : decode cX1_swapNames 34 = .ok (.ishl, 1) := by decide +kernel
theorem dX1_swapNames_35 : decode cX1_swapNames 35 = .ok (.if_icmp .ne 51, 3) := by decide +kernel
theorem dX1_swapNames_38 : decode cX1_swapNames 38 = .ok (.aload_n 0, 1) := by decide +kernel
theorem dX1_swapNames_39 : decode cX1_swapNames 39 = .ok (.getfield 11, 3) := by decide +kernel
theorem dX1_swapNames_42 : decode cX1_swapNames 42 = .ok (.iload 4, 2) := by decide +kernel
theorem dX1_swapNames_44 : decode cX1_swapNames 44 = .ok (.aaload, 1) := by decide +kernel
theorem dX1_swapNames_45 : decode cX1_swapNames 45 = .ok (.iload 5, 2) := by decide +kernel
theorem dX1_swapNames_47 : decode cX1_swapNames 47 = .ok (.iaload, 1) := by decide +kernel
theorem dX1_swapNames_48 : decode cX1_swapNames 48 = .ok (.istore 6, 2) := by decide +kernel
theorem dX1_swapNames_50 : decode cX1_swapNames 50 = .ok (.aload_n 0, 1) := by decide +kernel
theorem dX1_swapNames_51 : decode cX1_swapNames 51 = .ok (.getfield 11, 3) := by decide +kernel
theorem dX1_swapNames_54 : decode cX1_swapNames 54 = .ok (.iload 4, 2) := by decide +kernel
theorem dX1_swapNames_56 : decode cX1_swapNames 56 = .ok (.aaload, 1) := by decide +kernel
theorem dX1_swapNames_57 : decode cX1_swapNames 57 = .ok (.iload 5, 2) := by decide +kernel
theorem dX1_swapNames_59 : decode cX1_swapNames 59 = .ok (.aload_n 0, 1) := by decide +kernel
theorem dX1_swapNames_60 : decode cX1_swapNames 60 = .ok (.getfield 11, 3) := by decide +kernel
theorem dX1_swapNames_63 : decode cX1_swapNames 63 = .ok (.iload 4, 2) := by decide +kernel
theorem dX1_swapNames_65 : decode cX1_swapNames 65 = .ok (.aaload, 1) := by decide +kernel
theorem dX1_swapNames_66 : decode cX1_swapNames 66 = .ok (.iload 5, 2) := by decide +kernel
theorem dX1_swapNames_68 : decode cX1_swapNames 68 = .ok (.iload_n 3, 1) := by decide +kernel
theorem dX1_swapNames_69 : decode cX1_swapNames 69 = .ok (.ixor, 1) := by decide +kernel
theorem dX1_swapNames_70 : decode cX1_swapNames 70 = .ok (.iaload, 1) := by decide +kernel
theorem dX1_swapNames_71 : decode cX1_swapNames 71 = .ok (.iastore, 1) := by decide +kernel
theorem dX1_swapNames_72 : decode cX1_swapNames 72 = .ok (.aload_n 0, 1) := by decide +kernel
theorem dX1_swapNames_73 : decode cX1_swapNames 73 = .ok (.getfield 11, 3) := by decide +kernel
theorem dX1_swapNames_76 : decode cX1_swapNames 76 = .ok (.iload 4, 2) := by decide +kernel
theorem dX1_swapNames_78 : decode cX1_swapNames 78 = .ok (.aaload, 1) := by decide +kernel
theorem dX1_swapNames_79 : decode cX1_swapNames 79 = .ok (.iload 5, 2) := by decide +kernel
theorem dX1_swapNames_81 : decode cX1_swapNames 81 = .ok (.iload_n 3, 1) := by decide +kernel
theorem dX1_swapNames_82 : decode cX1_swapNames 82 = .ok (.ixor, 1) := by decide +kernel
theorem dX1_swapNames_83 : decode cX1_swapNames 83 = .ok (.iload 6, 2) := by decide +kernel
theorem dX1_swapNames_85 : decode cX1_swapNames 85 = .ok (.iastore, 1) := by decide +kernel
theorem dX1_swapNames_86 : decode cX1_swapNames 86 = .ok (.iinc 5 1, 3) := by decide +kernel
theorem dX1_swapNames_89 : decode cX1_swapNames 89 = .ok (.goto (-69), 3) := by decide +kernel
theorem dX1_swapNames_92 : decode cX1_swapNames 92 = .ok (.iinc 4 1, 3) := by decide +kernel
theorem dX1_swapNames_95 : decode cX1_swapNames 95 = .ok (.goto (-84), 3) := by decide +kernel
theorem dX1_swapNames_98 : decode cX1_swapNames 98 = .ok (.iconst 0, 1) := by decide +kernel
theorem dX1_swapNames_99 : decode cX1_swapNames 99 = .ok (.istore 4, 2) := by decide +kernel
theorem dX1_swapNames_101 : decode cX1_swapNames 101 = .ok (.iload 4, 2) := by decide +kernel
theorem dX1_swapNames_103 : decode cX1_swapNames 103 = .ok (.aload_n 0, 1) := by decide +kernel
theorem dX1_swapNames_104 : decode cX1_swapNames 104 = .ok (.getfield 16, 3) := by decide +kernel
theorem dX1_swapNames_107 : decode cX1_swapNames 107 = .ok (.if_icmp .ge 52, 3) := by decide +kernel
theorem dX1_swapNames_110 : decode cX1_swapNames 110 = .ok (.iload 4, 2) := by decide +kernel
theorem dX1_swapNames_112 : decode cX1_swapNames 112 = .ok (.iload_n 1, 1) := by decide +kernel
theorem dX1_swapNames_113 : decode cX1_swapNames 113 = .ok (.if_icmp .eq 40, 3) := by decide +kernel
theorem dX1_swapNames_116 : decode cX1_swapNames 116 = .ok (.iload 4, 2) := by decide +kernel
theorem dX1_swapNames_118 : decode cX1_swapNames 118 = .ok (.iload_n 2, 1) := by decide +kernel
theorem dX1_swapNames_119 : decode cX1_swapNames 119 = .ok (.if_icmp .eq 34, 3) := by decide +kernel
theorem dX1_swapNames_122 : decode cX1_swapNames 122 = .ok (.aload_n 0, 1) := by decide +kernel
theorem dX1_swapNames_123 : decode cX1_swapNames 123 = .ok (.iload_n 1, 1) := by decide +kernel
theorem dX1_swapNames_124 : decode cX1_swapNames 124 = .ok (.iload 4, 2) := by decide +kernel
theorem dX1_swapNames_126 : decode cX1_swapNames 126 = .ok (.invokevirtual 44, 3) := by decide +kernel
theorem dX1_swapNames_129 : decode cX1_swapNames 129 = .ok (.aload_n 0, 1) := by decide +kernel
theorem dX1_swapNames_130 : decode cX1_swapNames 130 = .ok (.iload_n 2, 1) := by decide +kernel
theorem dX1_swapNames_131 : decode cX1_swapNames 131 = .ok (.iload 4, 2) := by decide +kernel
theorem dX1_swapNames_133 : decode cX1_swapNames 133 = .ok (.invokevirtual 44, 3) := by decide +kernel
theorem dX1_swapNames_136 : decode cX1_swapNames 136 = .ok (.if_icmp .eq 17, 3) := by decide +kernel
theorem dX1_swapNames_139 : decode cX1_swapNames 139 = .ok (.aload_n 0, 1) := by decide +kernel
theorem dX1_swapNames_140 : decode cX1_swapNames 140 = .ok (.iload_n 1, 1) := by decide +kernel
theorem dX1_swapNames_141 : decode cX1_swapNames 141 = .ok (.iload 4, 2) := by decide +kernel
theorem dX1_swapNames_143 : decode cX1_swapNames 143 = .ok (.invokevirtual 48, 3) := by decide +kernel
theorem dX1_swapNames_146 : decode cX1_swapNames 146 = .ok (.aload_n 0, 1) := by decide +kernel
theorem dX1_swapNames_147 : decode cX1_swapNames 147 = .ok (.iload_n 2, 1) := by decide +kernel
theorem dX1_swapNames_148 : decode cX1_swapNames 148 = .ok (.iload 4, 2) := by decide +kernel
theorem dX1_swapNames_150 : decode cX1_swapNames 150 = .ok (.invokevirtual 48, 3) := by decide +kernel
theorem dX1_swapNames_153 : decode cX1_swapNames 153 = .ok (.iinc 4 1, 3) := by decide +kernel
theorem dX1_swapNames_156 : decode cX1_swapNames 156 = .ok (.goto (-55), 3) := by decide +kernel
theorem dX1_swapNames_159 : decode cX1_swapNames 159 = .ok (.return_, 1) := by decide +kernel
theorem dX2_init_0 : decode cX2_init 0 = .ok (.aload_n 0, 1) := by decide +kernel
theorem dX2_init_1 : decode cX2_init 1 = .ok (.invokespecial 3, 3) := by decide +kernel
theorem dX2_init_4 : decode cX2_init 4 = .ok (.aload_n 0, 1) := by decide +kernel
theorem dX2_init_5 : decode cX2_init 5 = .ok (.sipush 540, 3) := by decide +kernel
theorem dX2_init_8 : decode cX2_init 8 = .ok (.newarray .byte, 2) := by decide +kernel
theorem dX2_init_10 : decode cX2_init 10 = .ok (.putfield 11, 3) := by decide +kernel
theorem dX2_init_13 : decode cX2_init 13 = .ok (.aload_n 0, 1) := by decide +kernel
theorem dX2_init_14 : decode cX2_init 14 = .ok (.sipush 256, 3) := by decide +kernel
theorem dX2_init_17 : decode cX2_init 17 = .ok (.newarray .int, 2) := by decide +kernel
theorem dX2_init_19 : decode cX2_init 19 = .ok (.putfield 15, 3) := by decide +kernel
theorem dX2_init_22 : decode cX2_init 22 = .ok (.return_, 1) := by decide +kernel
theorem dX2_hasRoom_0 : decode cX2_hasRoom 0 = .ok (.aload_n 0, 1) := by decide +kernel
theorem dX2_hasRoom_1 : decode cX2_hasRoom 1 = .ok (.getfield 19, 3) := by decide +kernel
theorem dX2_hasRoom_4 : decode cX2_hasRoom 4 = .ok (.bipush 20, 2) := by decide +kernel
theorem dX2_hasRoom_6 : decode cX2_hasRoom 6 = .ok (.iadd, 1) := by decide +kernel
theorem dX2_hasRoom_7 : decode cX2_hasRoom 7 = .ok (.sipush 540, 3) := by decide +kernel
theorem dX2_hasRoom_10 : decode cX2_hasRoom 10 = .ok (.if_icmp .gt 7, 3) := by decide +kernel
theorem dX2_hasRoom_13 : decode cX2_hasRoom 13 = .ok (.iconst 1, 1) := by decide +kernel
theorem dX2_hasRoom_14 : decode cX2_hasRoom 14 = .ok (.goto 4, 3) := by decide +kernel
theorem dX2_hasRoom_17 : decode cX2_hasRoom 17 = .ok (.iconst 0, 1) := by decide +kernel
theorem dX2_hasRoom_18 : decode cX2_hasRoom 18 = .ok (.ireturn, 1) := by decide +kernel
theorem dX2_take_0 : decode cX2_take 0 = .ok (.bipush 24, 2) := by decide +kernel
theorem dX2_take_2 : decode cX2_take 2 = .ok (.istore_n 2, 1) := by decide +kernel
theorem dX2_take_3 : decode cX2_take 3 = .ok (.iload_n 2, 1) := by decide +kernel
theorem dX2_take_4 : decode cX2_take 4 = .ok (.ifCond .lt 42, 3) := by decide +kernel
theorem dX2_take_7 : decode cX2_take 7 = .ok (.aload_n 0, 1) := by decide +kernel
theorem dX2_take_8 : decode cX2_take 8 = .ok (.getfield 19, 3) := by decide +kernel
theorem dX2_take_11 : decode cX2_take 11 = .ok (.sipush 540, 3) := by decide +kernel
theorem dX2_take_14 : decode cX2_take 14 = .ok (.if_icmp .ge 32, 3) := by decide +kernel
theorem dX2_take_17 : decode cX2_take 17 = .ok (.aload_n 0, 1) := by decide +kernel
theorem dX2_take_18 : decode cX2_take 18 = .ok (.getfield 11, 3) := by decide +kernel
theorem dX2_take_21 : decode cX2_take 21 = .ok (.aload_n 0, 1) := by decide +kernel
theorem dX2_take_22 : decode cX2_take 22 = .ok (.getfield 19, 3) := by decide +kernel
theorem dX2_take_25 : decode cX2_take 25 = .ok (.iload_n 1, 1) := by decide +kernel
theorem dX2_take_26 : decode cX2_take 26 = .ok (.iload_n 2, 1) := by decide +kernel
theorem dX2_take_27 : decode cX2_take 27 = .ok (.iushr, 1) := by decide +kernel
theorem dX2_take_28 : decode cX2_take 28 = .ok (.i2b, 1) := by decide +kernel
theorem dX2_take_29 : decode cX2_take 29 = .ok (.bastore, 1) := by decide +kernel
theorem dX2_take_30 : decode cX2_take 30 = .ok (.aload_n 0, 1) := by decide +kernel
theorem dX2_take_31 : decode cX2_take 31 = .ok (.dup, 1) := by decide +kernel
theorem dX2_take_32 : decode cX2_take 32 = .ok (.getfield 19, 3) := by decide +kernel
theorem dX2_take_35 : decode cX2_take 35 = .ok (.iconst 1, 1) := by decide +kernel
theorem dX2_take_36 : decode cX2_take 36 = .ok (.iadd, 1) := by decide +kernel
theorem dX2_take_37 : decode cX2_take 37 = .ok (.putfield 19, 3) := by decide +kernel
theorem dX2_take_40 : decode cX2_take 40 = .ok (.iinc 2 (-8), 3) := by decide +kernel
theorem dX2_take_43 : decode cX2_take 43 = .ok (.goto (-40), 3) := by decide +kernel
theorem dX2_take_46 : decode cX2_take 46 = .ok (.return_, 1) := by decide +kernel
set_option maxRecDepth 20000 in
theorem ggX2_readAll_X2_readLine : GoodIn wsX2_readAll wsX2_readLine := goodIn_r _ [10, 11, 12, 13, 14, 15, 9, 16, 17, 18, 19, 20, 5, 21, 22, 23, 24, 25, 26, 27, 28, 29, 30, 31, 32, 33, 34, 35, 36, 37, 38, 39, 40, 41, 42, 43, 44, 45, 46, 47, 48, 49, 50, 51, 52, 53, 54, 55, 56, 57, 58, 59, 60, 61, 62, 63, 64, 65, 66, 67, 68, 69, 70, 71, 72, 73, 74, 75, 76, 77, 78, 79, 80, 81, 82, 83, 84, 85, 86, 87, 88, 89, 2, 90, 91, 92, 93, 1, 94, 95, 96, 97, 98, 99, 100, 101, 102, 4, 103, 104, 105, 106, 107, 108, 109, 110, 3, 111, 112, 113, 114, 115, 116, 117, 118, 119, 120, 121, 122, 123, 124, 125, 126, 127, 128, 129, 130] (by decide +kernel) (by decide +kernel)
set_option maxRecDepth 20000 in
theorem gX2_readAll_X2_readLine : GoodIn wsX2_readAll (wsV RX2 36 RX2 yX2_readLine wsX2_readLine) := goodIn_app (goodIn_of _ (by decide +kernel)) ggX2_readAll_X2_readLine
theorem dX2_readAll_0 : decode cX2_readAll 0 = .ok (.aload_n 0, 1) := by decide +kernel
theorem dX2_readAll_1 : decode cX2_readAll 1 = .ok (.iconst 0, 1) := by decide +kernel
theorem dX2_readAll_2 : decode cX2_readAll 2 = .ok (.putfield 23, 3) := by decide +kernel
theorem dX2_readAll_5 : decode cX2_readAll 5 = .ok (.aload_n 0, 1) := by decide +kernel
theorem dX2_readAll_6 : decode cX2_readAll 6 = .ok (.iconst 0, 1) := by decide +kernel
theorem dX2_readAll_7 : decode cX2_readAll 7 = .ok (.putfield 26, 3) := by decide +kernel
theorem dX2_readAll_10 : decode cX2_readAll 10 = .ok (.aload_n 0, 1) := by decide +kernel
theorem dX2_readAll_11 : decode cX2_readAll 11 = .ok (.lconst 0, 1) := by decide +kernel
theorem dX2_readAll_12 : decode cX2_readAll 12 = .ok (.putfield 29, 3) := by decide +kernel
theorem dX2_readAll_15 : decode cX2_readAll 15 = .ok (.iconst 0, 1) := by decide +kernel
theorem dX2_readAll_16 : decode cX2_readAll 16 = .ok (.istore_n 1, 1) := by decide +kernel
theorem dX2_readAll_17 : decode cX2_readAll 17 = .ok (.iload_n 1, 1) := by decide +kernel
theorem dX2_readAll_18 : decode cX2_readAll 18 = .ok (.sipush 256, 3) := by decide +kernel
theorem dX2_readAll_21 : decode cX2_readAll 21 = .ok (.if_icmp .ge 16, 3) := by decide +kernel
theorem dX2_readAll_24 : decode cX2_readAll 24 = .ok (.aload_n 0, 1) := by decide +kernel
theorem dX2_readAll_25 : decode cX2_readAll 25 = .ok (.getfield 15, 3) := by decide +kernel
theorem dX2_readAll_28 : decode cX2_readAll 28 = .ok (.iload_n 1, 1) := by decide +kernel
theorem dX2_readAll_29 : decode cX2_readAll 29 = .ok (.iconst 0, 1) := by decide +kernel
theorem dX2_readAll_30 : decode cX2_readAll 30 = .ok (.iastore, 1) := by decide +kernel
theorem dX2_readAll_31 : decode cX2_readAll 31 = .ok (.iinc 1 1, 3) := by decide +kernel
theorem dX2_readAll_34 : decode cX2_readAll 34 = .ok (.goto (-17), 3) := by decide +kernel
theorem dX2_readAll_37 : decode cX2_readAll 37 = .ok (.aload_n 0, 1) := by decide +kernel
theorem dX2_readAll_38 : decode cX2_readAll 38 = .ok (.iconst 0, 1) := by decide +kernel
theorem dX2_readAll_39 : decode cX2_readAll 39 = .ok (.putfield 33, 3) := by decide +kernel
theorem dX2_readAll_42 : decode cX2_readAll 42 = .ok (.iconst 0, 1) := by decide +kernel
theorem dX2_readAll_43 : decode cX2_readAll 43 = .ok (.istore_n 1, 1) := by decide +kernel
theorem dX2_readAll_44 : decode cX2_readAll 44 = .ok (.iload_n 1, 1) := by decide +kernel
theorem dX2_readAll_45 : decode cX2_readAll 45 = .ok (.sipush 540, 3) := by decide +kernel
theorem dX2_readAll_48 : decode cX2_readAll 48 = .ok (.if_icmp .ge 25, 3) := by decide +kernel
theorem dX2_readAll_51 : decode cX2_readAll 51 = .ok (.aload_n 0, 1) := by decide +kernel
theorem dX2_readAll_52 : decode cX2_readAll 52 = .ok (.iload_n 1, 1) := by decide +kernel
theorem dX2_readAll_53 : decode cX2_readAll 53 = .ok (.ifCond .ne 7, 3) := by decide +kernel
theorem dX2_readAll_56 : decode cX2_readAll 56 = .ok (.iconst 1, 1) := by decide +kernel
theorem dX2_readAll_57 : decode cX2_readAll 57 = .ok (.goto 4, 3) := by decide +kernel
theorem dX2_readAll_60 : decode cX2_readAll 60 = .ok (.iconst 0, 1) := by decide +kernel
theorem dX2_readAll_61 : decode cX2_readAll 61 = .ok (.invokevirtual 36, 3) := by decide +kernel
theorem dX2_readAll_64 : decode cX2_readAll 64 = .ok (.ifCond .eq 9, 3) := by decide +kernel
theorem dX2_readAll_67 : decode cX2_readAll 67 = .ok (.iinc 1 1, 3) := by decide +kernel
theorem dX2_readAll_70 : decode cX2_readAll 70 = .ok (.goto (-26), 3) := by decide +kernel
theorem dX2_readAll_73 : decode cX2_readAll 73 = .ok (.iload_n 1, 1) := by decide +kernel
theorem dX2_readAll_74 : decode cX2_readAll 74 = .ok (.ireturn, 1) := by decide +kernel
set_option maxRecDepth 20000 in
theorem ggX2_readLine_X2_nextToken : GoodIn wsX2_readLine wsX2_nextToken := goodIn_r _ [7, 2, 8, 9, 10, 11, 12, 13, 14, 1, 15, 16, 17, 6, 18, 19, 20, 21, 22, 23, 24, 117, 118, 119, 120, 121, 122, 123, 124, 125, 126] (by decide +kernel) (by decide +kernel)
set_option maxRecDepth 20000 in
theorem gX2_readLine_X2_nextToken : GoodIn wsX2_readLine (wsV RX2 40 RX2 yX2_nextToken wsX2_nextToken) := goodIn_app (goodIn_of _ (by decide +kernel)) ggX2_readLine_X2_nextToken
set_option maxRecDepth 20000 in
theorem ggX2_readLine_X2_isWord : GoodIn wsX2_readLine wsX2_isWord := goodIn_r _ [28, 1, 12, 13, 14, 29, 30, 31, 32, 33, 34, 35, 36, 37, 38, 39, 40, 41, 42, 43, 44, 45, 46, 47, 48, 49, 50, 51, 52, 53, 54, 55, 56, 57, 58, 59, 60, 61, 62, 63, 64, 65, 66, 67, 68, 69, 70, 71, 72, 73, 74, 75, 76, 77, 117, 118, 119, 120, 121, 122, 123, 124, 125, 126] (by decide +kernel) (by decide +kernel)
set_option maxRecDepth 20000 in
theorem gX2_readLine_X2_isWord : GoodIn wsX2_readLine (wsV RX2 47 RX2 yX2_isWord wsX2_isWord) := goodIn_app (goodIn_of _ (by decide +kernel)) ggX2_readLine_X2_isWord
set_option maxRecDepth 20000 in
theorem ggX2_readLine_X2_readThings : GoodIn wsX2_readLine wsX2_readThings := goodIn_r _ [81, 1, 82, 3, 4, 5, 6, 7, 2, 8, 9, 10, 11, 12, 13, 14, 15, 16, 17, 18, 19, 20, 21, 22, 23, 24, 83, 84, 85, 86, 87, 88, 89, 90, 91, 92, 117, 118, 119, 120, 121, 122, 123, 124, 125, 126] (by decide +kernel) (by decide +kernel)
set_option maxRecDepth 20000 in
theorem gX2_readLine_X2_readThings : GoodIn wsX2_readLine (wsV RX2 51 RX2 yX2_readThings wsX2_readThings) := goodIn_app (goodIn_of _ (by decide +kernel)) ggX2_readLine_X2_readThings
set_option maxRecDepth 20000 in
theorem ggX2_readLine_X2_blame : GoodIn wsX2_readLine wsX2_blame := goodIn_r _ [86, 87, 13, 88, 117, 118, 119, 120, 121, 122, 123, 124, 125, 126] (by decide +kernel) (by decide +kernel)
set_option maxRecDepth 20000 in
theorem gX2_readLine_X2_blame : GoodIn wsX2_readLine (wsV RX2 55 RX2 yX2_blame wsX2_blame) := goodIn_app (goodIn_of _ (by decide +kernel)) ggX2_readLine_X2_blame
set_option maxRecDepth 20000 in
theorem ggX2_readLine_X2_readSet : GoodIn wsX2_readLine wsX2_readSet := goodIn_r _ [96, 1, 97, 3, 4, 5, 6, 7, 2, 8, 9, 10, 11, 12, 13, 14, 15, 16, 17, 18, 19, 20, 21, 22, 23, 24, 83, 84, 85, 86, 87, 88, 98, 99, 100, 101, 82, 89, 90, 91, 92, 117, 118, 119, 120, 121, 122, 123, 124, 125, 126] (by decide +kernel) (by decide +kernel)
set_option maxRecDepth 20000 in
theorem gX2_readLine_X2_readSet : GoodIn wsX2_readLine (wsV RX2 61 RX2 yX2_readSet wsX2_readSet) := goodIn_app (goodIn_of _ (by decide +kernel)) ggX2_readLine_X2_readSet
set_option maxRecDepth 20000 in
theorem ggX2_readLine_X2_readPair : GoodIn wsX2_readLine wsX2_readPair := goodIn_r _ [105, 1, 106, 3, 4, 5, 6, 7, 2, 8, 9, 10, 11, 12, 13, 14, 15, 16, 17, 18, 19, 20, 21, 22, 23, 24, 83, 84, 85, 86, 87, 88, 98, 99, 100, 101, 82, 107, 108, 109, 110, 111, 112, 113, 114, 115, 116, 117, 118, 119, 120, 121, 122, 123, 124, 125, 126] (by decide +kernel) (by decide +kernel)
set_option maxRecDepth 20000 in
theorem gX2_readLine_X2_readPair : GoodIn wsX2_readLine (wsV RX2 66 RX2 yX2_readPair wsX2_readPair) := goodIn_app (goodIn_of _ (by decide +kernel)) ggX2_readLine_X2_readPair
theorem dX2_readLine_0 : decode cX2_readLine 0 = .ok (.aload_n 0, 1) := by decide +kernel
theorem dX2_readLine_1 : decode cX2_readLine 1 = .ok (.invokevirtual 40, 3) := by decide +kernel
theorem dX2_readLine_4 : decode cX2_readLine 4 = .ok (.aload_n 0, 1) := by decide +kernel
theorem dX2_readLine_5 : decode cX2_readLine 5 = .ok (.getfield 43, 3) := by decide +kernel
theorem dX2_readLine_8 : decode cX2_readLine 8 = .ok (.ifCond .ne 15, 3) := by decide +kernel
theorem dX2_readLine_11 : decode cX2_readLine 11 = .ok (.aload_n 0, 1) := by decide +kernel
theorem dX2_readLine_12 : decode cX2_readLine 12 = .ok (.getfield 19, 3) := by decide +kernel
theorem dX2_readLine_15 : decode cX2_readLine 15 = .ok (.sipush 500, 3) := by decide +kernel
theorem dX2_readLine_18 : decode cX2_readLine 18 = .ok (.if_icmp .gt 5, 3) := by decide +kernel
theorem dX2_readLine_21 : decode cX2_readLine 21 = .ok (.iconst 0, 1) := by decide +kernel
theorem dX2_readLine_22 : decode cX2_readLine 22 = .ok (.ireturn, 1) := by decide +kernel
theorem dX2_readLine_23 : decode cX2_readLine 23 = .ok (.iload_n 1, 1) := by decide +kernel
theorem dX2_readLine_24 : decode cX2_readLine 24 = .ok (.ifCond .eq 25, 3) := by decide +kernel
theorem dX2_readLine_27 : decode cX2_readLine 27 = .ok (.aload_n 0, 1) := by decide +kernel
theorem dX2_readLine_28 : decode cX2_readLine 28 = .ok (.ldc 46, 2) := by decide +kernel
theorem dX2_readLine_30 : decode cX2_readLine 30 = .ok (.invokevirtual 47, 3) := by decide +kernel
theorem dX2_readLine_33 : decode cX2_readLine 33 = .ok (.ifCond .eq 10, 3) := by decide +kernel
theorem dX2_readLine_36 : decode cX2_readLine 36 = .ok (.aload_n 0, 1) := by decide +kernel
theorem dX2_readLine_37 : decode cX2_readLine 37 = .ok (.invokevirtual 51, 3) := by decide +kernel
theorem dX2_readLine_40 : decode cX2_readLine 40 = .ok (.goto 8, 3) := by decide +kernel
theorem dX2_readLine_43 : decode cX2_readLine 43 = .ok (.aload_n 0, 1) := by decide +kernel
theorem dX2_readLine_44 : decode cX2_readLine 44 = .ok (.iconst 1, 1) := by decide +kernel
theorem dX2_readLine_45 : decode cX2_readLine 45 = .ok (.invokevirtual 55, 3) := by decide +kernel
theorem dX2_readLine_48 : decode cX2_readLine 48 = .ok (.ireturn, 1) := by decide +kernel
theorem dX2_readLine_49 : decode cX2_readLine 49 = .ok (.aload_n 0, 1) := by decide +kernel
theorem dX2_readLine_50 : decode cX2_readLine 50 = .ok (.ldc 59, 2) := by decide +kernel
theorem dX2_readLine_52 : decode cX2_readLine 52 = .ok (.invokevirtual 47, 3) := by decide +kernel
theorem dX2_readLine_55 : decode cX2_readLine 55 = .ok (.ifCond .eq 8, 3) := by decide +kernel
theorem dX2_readLine_58 : decode cX2_readLine 58 = .ok (.aload_n 0, 1) := by decide +kernel
theorem dX2_readLine_59 : decode cX2_readLine 59 = .ok (.invokevirtual 61, 3) := by decide +kernel
theorem dX2_readLine_62 : decode cX2_readLine 62 = .ok (.ireturn, 1) := by decide +kernel
theorem dX2_readLine_63 : decode cX2_readLine 63 = .ok (.aload_n 0, 1) := by decide +kernel
theorem dX2_readLine_64 : decode cX2_readLine 64 = .ok (.ldc 64, 2) := by decide +kernel
theorem dX2_readLine_66 : decode cX2_readLine 66 = .ok (.invokevirtual 47, 3) := by decide +kernel
theorem dX2_readLine_69 : decode cX2_readLine 69 = .ok (.ifCond .eq 10, 3) := by decide +kernel
theorem dX2_readLine_72 : decode cX2_readLine 72 = .ok (.aload_n 0, 1) := by decide +kernel
theorem dX2_readLine_73 : decode cX2_readLine 73 = .ok (.invokevirtual 66, 3) := by decide +kernel
theorem dX2_readLine_76 : decode cX2_readLine 76 = .ok (.goto 8, 3) := by decide +kernel
theorem dX2_readLine_79 : decode cX2_readLine 79 = .ok (.aload_n 0, 1) := by decide +kernel
theorem dX2_readLine_80 : decode cX2_readLine 80 = .ok (.iconst 1, 1) := by decide +kernel
theorem dX2_readLine_81 : decode cX2_readLine 81 = .ok (.invokevirtual 55, 3) := by decide +kernel
theorem dX2_readLine_84 : decode cX2_readLine 84 = .ok (.ireturn, 1) := by decide +kernel
set_option maxRecDepth 20000 in
theorem ggX2_readThings_X2_nextToken : GoodIn wsX2_readThings wsX2_nextToken := goodIn_r _ [7, 8, 9, 10, 11, 12, 13, 14, 15, 1, 16, 17, 18, 6, 19, 20, 21, 22, 23, 24, 25, 36, 37, 38, 39, 40, 41, 42, 43, 44, 45] (by decide +kernel) (by decide +kernel)
set_option maxRecDepth 20000 in
theorem gX2_readThings_X2_nextToken : GoodIn wsX2_readThings (wsV RX2 40 RX2 yX2_nextToken wsX2_nextToken) := goodIn_app (goodIn_of _ (by decide +kernel)) ggX2_readThings_X2_nextToken
set_option maxRecDepth 20000 in
theorem ggX2_readThings_X2_blame : GoodIn wsX2_readThings wsX2_blame := goodIn_r _ [29, 30, 14, 31, 36, 37, 38, 39, 40, 41, 42, 43, 44, 45] (by decide +kernel) (by decide +kernel)
set_option maxRecDepth 20000 in
theorem gX2_readThings_X2_blame : GoodIn wsX2_readThings (wsV RX2 55 RX2 yX2_blame wsX2_blame) := goodIn_app (goodIn_of _ (by decide +kernel)) ggX2_readThings_X2_blame
set_option maxRecDepth 20000 in
theorem ggX2_readThings_X2_numberRead : GoodIn wsX2_readThings wsX2_numberRead := goodIn_r _ [35, 14, 13, 15, 36, 37, 38, 39, 40, 41, 42, 43, 44, 45] (by decide +kernel) (by decide +kernel)
set_option maxRecDepth 20000 in
theorem gX2_readThings_X2_numberRead : GoodIn wsX2_readThings (wsV RX2 69 RX2 yX2_numberRead wsX2_numberRead) := goodIn_app (goodIn_of _ (by decide +kernel)) ggX2_readThings_X2_numberRead
theorem dX2_readThings_0 : decode cX2_readThings 0 = .ok (.aload_n 0, 1) := by decide +kernel
theorem dX2_readThings_1 : decode cX2_readThings 1 = .ok (.invokevirtual 40, 3) := by decide +kernel
theorem dX2_readThings_4 : decode cX2_readThings 4 = .ok (.aload_n 0, 1) := by decide +kernel
theorem dX2_readThings_5 : decode cX2_readThings 5 = .ok (.getfield 43, 3) := by decide +kernel
theorem dX2_readThings_8 : decode cX2_readThings 8 = .ok (.iconst 2, 1) := by decide +kernel
theorem dX2_readThings_9 : decode cX2_readThings 9 = .ok (.if_icmp .eq 9, 3) := by decide +kernel
theorem dX2_readThings_12 : decode cX2_readThings 12 = .ok (.aload_n 0, 1) := by decide +kernel
theorem dX2_readThings_13 : decode cX2_readThings 13 = .ok (.iconst 1, 1) := by decide +kernel
theorem dX2_readThings_14 : decode cX2_readThings 14 = .ok (.invokevirtual 55, 3) := by decide +kernel
theorem dX2_readThings_17 : decode cX2_readThings 17 = .ok (.ireturn, 1) := by decide +kernel
theorem dX2_readThings_18 : decode cX2_readThings 18 = .ok (.aload_n 0, 1) := by decide +kernel
theorem dX2_readThings_19 : decode cX2_readThings 19 = .ok (.invokevirtual 69, 3) := by decide +kernel
theorem dX2_readThings_22 : decode cX2_readThings 22 = .ok (.istore_n 1, 1) := by decide +kernel
theorem dX2_readThings_23 : decode cX2_readThings 23 = .ok (.iload_n 1, 1) := by decide +kernel
theorem dX2_readThings_24 : decode cX2_readThings 24 = .ok (.iconst 1, 1) := by decide +kernel
theorem dX2_readThings_25 : decode cX2_readThings 25 = .ok (.if_icmp .lt 9, 3) := by decide +kernel
theorem dX2_readThings_28 : decode cX2_readThings 28 = .ok (.iload_n 1, 1) := by decide +kernel
theorem dX2_readThings_29 : decode cX2_readThings 29 = .ok (.bipush 8, 2) := by decide +kernel
theorem dX2_readThings_31 : decode cX2_readThings 31 = .ok (.if_icmp .le 9, 3) := by decide +kernel
theorem dX2_readThings_34 : decode cX2_readThings 34 = .ok (.aload_n 0, 1) := by decide +kernel
theorem dX2_readThings_35 : decode cX2_readThings 35 = .ok (.iconst 2, 1) := by decide +kernel
theorem dX2_readThings_36 : decode cX2_readThings 36 = .ok (.invokevirtual 55, 3) := by decide +kernel
theorem dX2_readThings_39 : decode cX2_readThings 39 = .ok (.ireturn, 1) := by decide +kernel
theorem dX2_readThings_40 : decode cX2_readThings 40 = .ok (.aload_n 0, 1) := by decide +kernel
theorem dX2_readThings_41 : decode cX2_readThings 41 = .ok (.iload_n 1, 1) := by decide +kernel
theorem dX2_readThings_42 : decode cX2_readThings 42 = .ok (.putfield 26, 3) := by decide +kernel
theorem dX2_readThings_45 : decode cX2_readThings 45 = .ok (.aload_n 0, 1) := by decide +kernel
theorem dX2_readThings_46 : decode cX2_readThings 46 = .ok (.invokevirtual 40, 3) := by decide +kernel
theorem dX2_readThings_49 : decode cX2_readThings 49 = .ok (.aload_n 0, 1) := by decide +kernel
theorem dX2_readThings_50 : decode cX2_readThings 50 = .ok (.getfield 43, 3) := by decide +kernel
theorem dX2_readThings_53 : decode cX2_readThings 53 = .ok (.iconst 3, 1) := by decide +kernel
theorem dX2_readThings_54 : decode cX2_readThings 54 = .ok (.if_icmp .eq 11, 3) := by decide +kernel
theorem dX2_readThings_57 : decode cX2_readThings 57 = .ok (.aload_n 0, 1) := by decide +kernel
theorem dX2_readThings_58 : decode cX2_readThings 58 = .ok (.iconst 1, 1) := by decide +kernel
theorem dX2_readThings_59 : decode cX2_readThings 59 = .ok (.invokevirtual 55, 3) := by decide +kernel
theorem dX2_readThings_62 : decode cX2_readThings 62 = .ok (.ifCond .eq 7, 3) := by decide +kernel
theorem dX2_readThings_65 : decode cX2_readThings 65 = .ok (.iconst 1, 1) := by decide +kernel
theorem dX2_readThings_66 : decode cX2_readThings 66 = .ok (.goto 4, 3) := by decide +kernel
theorem dX2_readThings_69 : decode cX2_readThings 69 = .ok (.iconst 0, 1) := by decide +kernel
theorem dX2_readThings_70 : decode cX2_readThings 70 = .ok (.ireturn, 1) := by decide +kernel
set_option maxRecDepth 20000 in
theorem ggX2_readSet_X2_nextToken : GoodIn wsX2_readSet wsX2_nextToken := goodIn_r _ [7, 8, 9, 10, 11, 12, 13, 14, 15, 1, 16, 17, 18, 6, 19, 20, 21, 22, 23, 24, 25, 41, 42, 43, 44, 45, 46, 47, 48, 49, 50] (by decide +kernel) (by decide +kernel)
set_option maxRecDepth 20000 in
theorem gX2_readSet_X2_nextToken : GoodIn wsX2_readSet (wsV RX2 40 RX2 yX2_nextToken wsX2_nextToken) := goodIn_app (goodIn_of _ (by decide +kernel)) ggX2_readSet_X2_nextToken
set_option maxRecDepth 20000 in
theorem ggX2_readSet_X2_blame : GoodIn wsX2_readSet wsX2_blame := goodIn_r _ [29, 30, 14, 31, 41, 42, 43, 44, 45, 46, 47, 48, 49, 50] (by decide +kernel) (by decide +kernel)
set_option maxRecDepth 20000 in
theorem gX2_readSet_X2_blame : GoodIn wsX2_readSet (wsV RX2 55 RX2 yX2_blame wsX2_blame) := goodIn_app (goodIn_of _ (by decide +kernel)) ggX2_readSet_X2_blame
set_option maxRecDepth 20000 in
theorem ggX2_readSet_X2_lettersRead : GoodIn wsX2_readSet wsX2_lettersRead := goodIn_r _ [35, 14, 13, 15, 36, 41, 42, 43, 44, 45, 46, 47, 48, 49, 50] (by decide +kernel) (by decide +kernel)
set_option maxRecDepth 20000 in
theorem gX2_readSet_X2_lettersRead : GoodIn wsX2_readSet (wsV RX2 73 RX2 yX2_lettersRead wsX2_lettersRead) := goodIn_app (goodIn_of _ (by decide +kernel)) ggX2_readSet_X2_lettersRead
set_option maxRecDepth 20000 in
theorem ggX2_readSet_X2_numberRead : GoodIn wsX2_readSet wsX2_numberRead := goodIn_r _ [40, 14, 13, 15, 41, 42, 43, 44, 45, 46, 47, 48, 49, 50] (by decide +kernel) (by decide +kernel)
set_option maxRecDepth 20000 in
theorem gX2_readSet_X2_numberRead : GoodIn wsX2_readSet (wsV RX2 69 RX2 yX2_numberRead wsX2_numberRead) := goodIn_app (goodIn_of _ (by decide +kernel)) ggX2_readSet_X2_numberRead
theorem dX2_readSet_0 : decode cX2_readSet 0 = .ok (.aload_n 0, 1) := by decide +kernel
theorem dX2_readSet_1 : decode cX2_readSet 1 = .ok (.invokevirtual 40, 3) := by decide +kernel
theorem dX2_readSet_4 : decode cX2_readSet 4 = .ok (.aload_n 0, 1) := by decide +kernel
theorem dX2_readSet_5 : decode cX2_readSet 5 = .ok (.getfield 43, 3) := by decide +kernel
theorem dX2_readSet_8 : decode cX2_readSet 8 = .ok (.iconst 1, 1) := by decide +kernel
theorem dX2_readSet_9 : decode cX2_readSet 9 = .ok (.if_icmp .eq 9, 3) := by decide +kernel
theorem dX2_readSet_12 : decode cX2_readSet 12 = .ok (.aload_n 0, 1) := by decide +kernel
theorem dX2_readSet_13 : decode cX2_readSet 13 = .ok (.iconst 1, 1) := by decide +kernel
theorem dX2_readSet_14 : decode cX2_readSet 14 = .ok (.invokevirtual 55, 3) := by decide +kernel
theorem dX2_readSet_17 : decode cX2_readSet 17 = .ok (.ireturn, 1) := by decide +kernel
theorem dX2_readSet_18 : decode cX2_readSet 18 = .ok (.aload_n 0, 1) := by decide +kernel
theorem dX2_readSet_19 : decode cX2_readSet 19 = .ok (.invokevirtual 73, 3) := by decide +kernel
theorem dX2_readSet_22 : decode cX2_readSet 22 = .ok (.istore_n 1, 1) := by decide +kernel
theorem dX2_readSet_23 : decode cX2_readSet 23 = .ok (.iload_n 1, 1) := by decide +kernel
theorem dX2_readSet_24 : decode cX2_readSet 24 = .ok (.iconst (-1), 1) := by decide +kernel
theorem dX2_readSet_25 : decode cX2_readSet 25 = .ok (.if_icmp .ne 9, 3) := by decide +kernel
theorem dX2_readSet_28 : decode cX2_readSet 28 = .ok (.aload_n 0, 1) := by decide +kernel
theorem dX2_readSet_29 : decode cX2_readSet 29 = .ok (.iconst 3, 1) := by decide +kernel
theorem dX2_readSet_30 : decode cX2_readSet 30 = .ok (.invokevirtual 55, 3) := by decide +kernel
theorem dX2_readSet_33 : decode cX2_readSet 33 = .ok (.ireturn, 1) := by decide +kernel
theorem dX2_readSet_34 : decode cX2_readSet 34 = .ok (.aload_n 0, 1) := by decide +kernel
theorem dX2_readSet_35 : decode cX2_readSet 35 = .ok (.getfield 15, 3) := by decide +kernel
theorem dX2_readSet_38 : decode cX2_readSet 38 = .ok (.iload_n 1, 1) := by decide +kernel
theorem dX2_readSet_39 : decode cX2_readSet 39 = .ok (.iaload, 1) := by decide +kernel
theorem dX2_readSet_40 : decode cX2_readSet 40 = .ok (.ifCond .eq 9, 3) := by decide +kernel
theorem dX2_readSet_43 : decode cX2_readSet 43 = .ok (.aload_n 0, 1) := by decide +kernel
theorem dX2_readSet_44 : decode cX2_readSet 44 = .ok (.iconst 4, 1) := by decide +kernel
theorem dX2_readSet_45 : decode cX2_readSet 45 = .ok (.invokevirtual 55, 3) := by decide +kernel
theorem dX2_readSet_48 : decode cX2_readSet 48 = .ok (.ireturn, 1) := by decide +kernel
theorem dX2_readSet_49 : decode cX2_readSet 49 = .ok (.aload_n 0, 1) := by decide +kernel
theorem dX2_readSet_50 : decode cX2_readSet 50 = .ok (.getfield 15, 3) := by decide +kernel
theorem dX2_readSet_53 : decode cX2_readSet 53 = .ok (.iload_n 1, 1) := by decide +kernel
theorem dX2_readSet_54 : decode cX2_readSet 54 = .ok (.iconst 1, 1) := by decide +kernel
theorem dX2_readSet_55 : decode cX2_readSet 55 = .ok (.iastore, 1) := by decide +kernel
theorem dX2_readSet_56 : decode cX2_readSet 56 = .ok (.aload_n 0, 1) := by decide +kernel
theorem dX2_readSet_57 : decode cX2_readSet 57 = .ok (.invokevirtual 40, 3) := by decide +kernel
theorem dX2_readSet_60 : decode cX2_readSet 60 = .ok (.aload_n 0, 1) := by decide +kernel
theorem dX2_readSet_61 : decode cX2_readSet 61 = .ok (.getfield 43, 3) := by decide +kernel
theorem dX2_readSet_64 : decode cX2_readSet 64 = .ok (.iconst 2, 1) := by decide +kernel
theorem dX2_readSet_65 : decode cX2_readSet 65 = .ok (.if_icmp .ne 33, 3) := by decide +kernel
theorem dX2_readSet_68 : decode cX2_readSet 68 = .ok (.aload_n 0, 1) := by decide +kernel
theorem dX2_readSet_69 : decode cX2_readSet 69 = .ok (.getfield 15, 3) := by decide +kernel
theorem dX2_readSet_72 : decode cX2_readSet 72 = .ok (.iload_n 1, 1) := by decide +kernel
theorem dX2_readSet_73 : decode cX2_readSet 73 = .ok (.aload_n 0, 1) := by decide +kernel
theorem dX2_readSet_74 : decode cX2_readSet 74 = .ok (.invokevirtual 69, 3) := by decide +kernel
theorem dX2_readSet_77 : decode cX2_readSet 77 = .ok (.iastore, 1) := by decide +kernel
theorem dX2_readSet_78 : decode cX2_readSet 78 = .ok (.aload_n 0, 1) := by decide +kernel
theorem dX2_readSet_79 : decode cX2_readSet 79 = .ok (.getfield 15, 3) := by decide +kernel
theorem dX2_readSet_82 : decode cX2_readSet 82 = .ok (.iload_n 1, 1) := by decide +kernel
theorem dX2_readSet_83 : decode cX2_readSet 83 = .ok (.iaload, 1) := by decide +kernel
theorem dX2_readSet_84 : decode cX2_readSet 84 = .ok (.iconst 1, 1) := by decide +kernel
theorem dX2_readSet_85 : decode cX2_readSet 85 = .ok (.if_icmp .ge 9, 3) := by decide +kernel
theorem dX2_readSet_88 : decode cX2_readSet 88 = .ok (.aload_n 0, 1) := by decide +kernel
theorem dX2_readSet_89 : decode cX2_readSet 89 = .ok (.iconst 2, 1) := by decide +kernel
theorem dX2_readSet_90 : decode cX2_readSet 90 = .ok (.invokevirtual 55, 3) := by decide +kernel
theorem dX2_readSet_93 : decode cX2_readSet 93 = .ok (.ireturn, 1) := by decide +kernel
theorem dX2_readSet_94 : decode cX2_readSet 94 = .ok (.aload_n 0, 1) := by decide +kernel
theorem dX2_readSet_95 : decode cX2_readSet 95 = .ok (.invokevirtual 40, 3) := by decide +kernel
theorem dX2_readSet_98 : decode cX2_readSet 98 = .ok (.aload_n 0, 1) := by decide +kernel
theorem dX2_readSet_99 : decode cX2_readSet 99 = .ok (.getfield 43, 3) := by decide +kernel
theorem dX2_readSet_102 : decode cX2_readSet 102 = .ok (.iconst 3, 1) := by decide +kernel
theorem dX2_readSet_103 : decode cX2_readSet 103 = .ok (.if_icmp .eq 11, 3) := by decide +kernel
theorem dX2_readSet_106 : decode cX2_readSet 106 = .ok (.aload_n 0, 1) := by decide +kernel
theorem dX2_readSet_107 : decode cX2_readSet 107 = .ok (.iconst 1, 1) := by decide +kernel
theorem dX2_readSet_108 : decode cX2_readSet 108 = .ok (.invokevirtual 55, 3) := by decide +kernel
theorem dX2_readSet_111 : decode cX2_readSet 111 = .ok (.ifCond .eq 7, 3) := by decide +kernel
theorem dX2_readSet_114 : decode cX2_readSet 114 = .ok (.iconst 1, 1) := by decide +kernel
theorem dX2_readSet_115 : decode cX2_readSet 115 = .ok (.goto 4, 3) := by decide +kernel
theorem dX2_readSet_118 : decode cX2_readSet 118 = .ok (.iconst 0, 1) := by decide +kernel
theorem dX2_readSet_119 : decode cX2_readSet 119 = .ok (.ireturn, 1) := by decide +kernel
set_option maxRecDepth 20000 in
theorem ggX2_readPair_X2_nextToken : GoodIn wsX2_readPair wsX2_nextToken := goodIn_r _ [7, 8, 9, 10, 11, 12, 13, 14, 15, 1, 16, 17, 18, 6, 19, 20, 21, 22, 23, 24, 25, 47, 48, 49, 50, 51, 52, 53, 54, 55, 56] (by decide +kernel) (by decide +kernel)
set_option maxRecDepth 20000 in
theorem gX2_readPair_X2_nextToken : GoodIn wsX2_readPair (wsV RX2 40 RX2 yX2_nextToken wsX2_nextToken) := goodIn_app (goodIn_of _ (by decide +kernel)) ggX2_readPair_X2_nextToken
set_option maxRecDepth 20000 in
theorem ggX2_readPair_X2_blame : GoodIn wsX2_readPair wsX2_blame := goodIn_r _ [29, 30, 14, 31, 47, 48, 49, 50, 51, 52, 53, 54, 55, 56] (by decide +kernel) (by decide +kernel)
set_option maxRecDepth 20000 in
theorem gX2_readPair_X2_blame : GoodIn wsX2_readPair (wsV RX2 55 RX2 yX2_blame wsX2_blame) := goodIn_app (goodIn_of _ (by decide +kernel)) ggX2_readPair_X2_blame
set_option maxRecDepth 20000 in
theorem ggX2_readPair_X2_lettersRead : GoodIn wsX2_readPair wsX2_lettersRead := goodIn_r _ [35, 14, 13, 15, 36, 47, 48, 49, 50, 51, 52, 53, 54, 55, 56] (by decide +kernel) (by decide +kernel)
set_option maxRecDepth 20000 in
theorem gX2_readPair_X2_lettersRead : GoodIn wsX2_readPair (wsV RX2 73 RX2 yX2_lettersRead wsX2_lettersRead) := goodIn_app (goodIn_of _ (by decide +kernel)) ggX2_readPair_X2_lettersRead
set_option maxRecDepth 20000 in
theorem ggX2_readPair_J6_bitCount_0f7a4 : GoodIn wsX2_readPair wsJ6_bitCount_0f7a4 := goodIn_r _ [40, 41, 42, 43] (by decide +kernel) (by decide +kernel)
set_option maxRecDepth 20000 in
theorem gX2_readPair_J6_bitCount_0f7a4 : GoodIn wsX2_readPair (va_wsS RX2 76 yJ6_bitCount_0f7a4 wsJ6_bitCount_0f7a4) := goodIn_app (goodIn_of _ (by decide +kernel)) ggX2_readPair_J6_bitCount_0f7a4
set_option maxRecDepth 20000 in
theorem ggX2_readPair_X4_leastThing : GoodIn wsX2_readPair wsX4_leastThing := goodIn_r _ [46] (by decide +kernel) (by decide +kernel)
set_option maxRecDepth 20000 in
theorem gX2_readPair_X4_leastThing_n82 : GoodIn wsX2_readPair (wsX4_leastThing) := ggX2_readPair_X4_leastThing
theorem dX2_readPair_0 : decode cX2_readPair 0 = .ok (.aload_n 0, 1) := by decide +kernel
theorem dX2_readPair_1 : decode cX2_readPair 1 = .ok (.invokevirtual 40, 3) := by decide +kernel
theorem dX2_readPair_4 : decode cX2_readPair 4 = .ok (.aload_n 0, 1) := by decide +kernel
theorem dX2_readPair_5 : decode cX2_readPair 5 = .ok (.getfield 43, 3) := by decide +kernel
theorem dX2_readPair_8 : decode cX2_readPair 8 = .ok (.iconst 1, 1) := by decide +kernel
theorem dX2_readPair_9 : decode cX2_readPair 9 = .ok (.if_icmp .eq 9, 3) := by decide +kernel
theorem dX2_readPair_12 : decode cX2_readPair 12 = .ok (.aload_n 0, 1) := by decide +kernel
theorem dX2_readPair_13 : decode cX2_readPair 13 = .ok (.iconst 1, 1) := by decide +kernel
theorem dX2_readPair_14 : decode cX2_readPair 14 = .ok (.invokevirtual 55, 3) := by decide +kernel
theorem dX2_readPair_17 : decode cX2_readPair 17 = .ok (.ireturn, 1) := by decide +kernel
theorem dX2_readPair_18 : decode cX2_readPair 18 = .ok (.aload_n 0, 1) := by decide +kernel
theorem dX2_readPair_19 : decode cX2_readPair 19 = .ok (.invokevirtual 73, 3) := by decide +kernel
theorem dX2_readPair_22 : decode cX2_readPair 22 = .ok (.istore_n 1, 1) := by decide +kernel
theorem dX2_readPair_23 : decode cX2_readPair 23 = .ok (.iload_n 1, 1) := by decide +kernel
theorem dX2_readPair_24 : decode cX2_readPair 24 = .ok (.iconst (-1), 1) := by decide +kernel
theorem dX2_readPair_25 : decode cX2_readPair 25 = .ok (.if_icmp .eq 11, 3) := by decide +kernel
theorem dX2_readPair_28 : decode cX2_readPair 28 = .ok (.iload_n 1, 1) := by decide +kernel
theorem dX2_readPair_29 : decode cX2_readPair 29 = .ok (.invokestatic 76, 3) := by decide +kernel
theorem dX2_readPair_32 : decode cX2_readPair 32 = .ok (.iconst 2, 1) := by decide +kernel
theorem dX2_readPair_33 : decode cX2_readPair 33 = .ok (.if_icmp .eq 9, 3) := by decide +kernel
theorem dX2_readPair_36 : decode cX2_readPair 36 = .ok (.aload_n 0, 1) := by decide +kernel
theorem dX2_readPair_37 : decode cX2_readPair 37 = .ok (.iconst 3, 1) := by decide +kernel
theorem dX2_readPair_38 : decode cX2_readPair 38 = .ok (.invokevirtual 55, 3) := by decide +kernel
theorem dX2_readPair_41 : decode cX2_readPair 41 = .ok (.ireturn, 1) := by decide +kernel
theorem dX2_readPair_42 : decode cX2_readPair 42 = .ok (.iload_n 1, 1) := by decide +kernel
theorem dX2_readPair_43 : decode cX2_readPair 43 = .ok (.invokestatic 82, 3) := by decide +kernel
theorem dX2_readPair_46 : decode cX2_readPair 46 = .ok (.istore_n 2, 1) := by decide +kernel
theorem dX2_readPair_47 : decode cX2_readPair 47 = .ok (.iload_n 1, 1) := by decide +kernel
theorem dX2_readPair_48 : decode cX2_readPair 48 = .ok (.iload_n 1, 1) := by decide +kernel
theorem dX2_readPair_49 : decode cX2_readPair 49 = .ok (.iconst 1, 1) := by decide +kernel
theorem dX2_readPair_50 : decode cX2_readPair 50 = .ok (.isub, 1) := by decide +kernel
theorem dX2_readPair_51 : decode cX2_readPair 51 = .ok (.iand, 1) := by decide +kernel
theorem dX2_readPair_52 : decode cX2_readPair 52 = .ok (.invokestatic 82, 3) := by decide +kernel
theorem dX2_readPair_55 : decode cX2_readPair 55 = .ok (.istore_n 3, 1) := by decide +kernel
theorem dX2_readPair_56 : decode cX2_readPair 56 = .ok (.lconst 1, 1) := by decide +kernel
theorem dX2_readPair_57 : decode cX2_readPair 57 = .ok (.iload_n 2, 1) := by decide +kernel
theorem dX2_readPair_58 : decode cX2_readPair 58 = .ok (.bipush 8, 2) := by decide +kernel
theorem dX2_readPair_60 : decode cX2_readPair 60 = .ok (.imul, 1) := by decide +kernel
theorem dX2_readPair_61 : decode cX2_readPair 61 = .ok (.iload_n 3, 1) := by decide +kernel
theorem dX2_readPair_62 : decode cX2_readPair 62 = .ok (.iadd, 1) := by decide +kernel
theorem dX2_readPair_63 : decode cX2_readPair 63 = .ok (.lshl, 1) := by decide +kernel
theorem dX2_readPair_64 : decode cX2_readPair 64 = .ok (.lconst 1, 1) := by decide +kernel
theorem dX2_readPair_65 : decode cX2_readPair 65 = .ok (.iload_n 3, 1) := by decide +kernel
theorem dX2_readPair_66 : decode cX2_readPair 66 = .ok (.bipush 8, 2) := by decide +kernel
theorem dX2_readPair_68 : decode cX2_readPair 68 = .ok (.imul, 1) := by decide +kernel
theorem dX2_readPair_69 : decode cX2_readPair 69 = .ok (.iload_n 2, 1) := by decide +kernel
theorem dX2_readPair_70 : decode cX2_readPair 70 = .ok (.iadd, 1) := by decide +kernel
theorem dX2_readPair_71 : decode cX2_readPair 71 = .ok (.lshl, 1) := by decide +kernel
theorem dX2_readPair_72 : decode cX2_readPair 72 = .ok (.lor, 1) := by decide +kernel
theorem dX2_readPair_73 : decode cX2_readPair 73 = .ok (.lstore 4, 2) := by decide +kernel
theorem dX2_readPair_75 : decode cX2_readPair 75 = .ok (.aload_n 0, 1) := by decide +kernel
theorem dX2_readPair_76 : decode cX2_readPair 76 = .ok (.getfield 29, 3) := by decide +kernel
